set_option maxRecDepth 200000 in
theorem b_L_law_0 {d : Nat} {h0 h : eb_H} {Q : Option Value → eb_H → Prop}   (w : eb_Ct d 95 [.ref (eb_nx h 10 0)] (eb_nw h 10 0 (eb_nf 10)) (fun r h1 => r = none ∧ eb_Ct d 157 [.ref (eb_nx h1 11 0)] (eb_nw h1 11 0 (eb_nf 11)) (fun r h4 => r = none ∧ eb_Sn (d + 1) m_L_law h0 18 [(0, .ref 20), (1, .ref (eb_nx h 10 0)), (2, .ref (eb_nx h1 11 0)), (3, .int 0)] [] h4 Q))) : eb_Sn (d + 1) m_L_law h0 0 [(0, .ref 20)] [] h Q := by
  refine eb_new (pc := 0) rfl (by decide) ?_
  refine eb_dupr (pc := 3) rfl ?_
  refine eb_ctI (pc := 4) (As := []) (rest := [.ref (eb_nx h 10 0)]) rfl (by decide) (by decide) rfl rfl rfl rfl (Nat.le_of_ble_eq_true rfl) ?_
  refine eb_Ct.mono w ?_
  rintro r h1 ⟨rfl, w⟩
  change eb_Sn _ _ _ 7 _ [.ref (eb_nx h 10 0)] _ _
  refine eb_astore_n (pc := 7) (n := 1) (i := 1) (ls2 := [(1, .ref (eb_nx h 10 0)), (0, .ref 20)]) rfl (Nat.le_of_ble_eq_true rfl) rfl rfl ?_
  refine eb_new (pc := 8) rfl (by decide) ?_
  refine eb_dupr (pc := 11) rfl ?_
  refine eb_ctI (pc := 12) (As := []) (rest := [.ref (eb_nx h1 11 0)]) rfl (by decide) (by decide) rfl rfl rfl rfl (Nat.le_of_ble_eq_true rfl) ?_
  refine eb_Ct.mono w ?_
  rintro r h4 ⟨rfl, w⟩
  change eb_Sn _ _ _ 15 _ [.ref (eb_nx h1 11 0)] _ _
  refine eb_astore_n (pc := 15) (n := 2) (i := 2) (ls2 := [(2, .ref (eb_nx h1 11 0)), (1, .ref (eb_nx h 10 0)), (0, .ref 20)]) rfl (Nat.le_of_ble_eq_true rfl) rfl rfl ?_
  refine eb_iconst (pc := 16) (n := 0) (v := 0) rfl rfl ?_
  refine eb_istore_n (pc := 17) (n := 3) (i := 3) (ls2 := [(3, .int 0), (2, .ref (eb_nx h1 11 0)), (1, .ref (eb_nx h 10 0)), (0, .ref 20)]) rfl (Nat.le_of_ble_eq_true rfl) rfl rfl ?_
  exact eb_pick [3, 2, 1, 0] rfl w
set_option maxRecDepth 200000 in
theorem b_L_law_18 {d : Nat} {h0 h : eb_H} {Q : Option Value → eb_H → Prop} (a1 : Nat) (a2 : Nat) (x3 : Int32) (ka1 : eb_kd a1 = 10) (ka2 : eb_kd a2 = 11) (ko : eb_KO h) (w : ((((Int32.ofNat (eb_XL h)) - 6) < x3 → Q (some (.int 1)) h) ∧ (¬ (((Int32.ofNat (eb_XL h)) - 6) < x3) → (vp_in x3 (eb_XL h)) ∧ ((((eb_X h x3.toNatClampNeg) &&& 63) = 0 → eb_Sn (d + 1) m_L_law h0 220 [(0, .ref 20), (1, .ref a1), (2, .ref a2), (3, .int x3)] [] h Q) ∧ (((eb_X h x3.toNatClampNeg) &&& 63) = 1 → eb_Sn (d + 1) m_L_law h0 283 [(0, .ref 20), (1, .ref a1), (2, .ref a2), (3, .int x3)] [] h Q) ∧ (((eb_X h x3.toNatClampNeg) &&& 63) = 2 → eb_Sn (d + 1) m_L_law h0 306 [(0, .ref 20), (1, .ref a1), (2, .ref a2), (3, .int x3)] [] h Q) ∧ (((eb_X h x3.toNatClampNeg) &&& 63) = 3 → eb_Sn (d + 1) m_L_law h0 329 [(0, .ref 20), (1, .ref a1), (2, .ref a2), (3, .int x3)] [] h Q) ∧ (((eb_X h x3.toNatClampNeg) &&& 63) = 4 → eb_Sn (d + 1) m_L_law h0 362 [(0, .ref 20), (1, .ref a1), (2, .ref a2), (3, .int x3)] [] h Q) ∧ (((eb_X h x3.toNatClampNeg) &&& 63) = 5 → eb_Sn (d + 1) m_L_law h0 385 [(0, .ref 20), (1, .ref a1), (2, .ref a2), (3, .int x3)] [] h Q) ∧ (((eb_X h x3.toNatClampNeg) &&& 63) = 6 → eb_Sn (d + 1) m_L_law h0 408 [(0, .ref 20), (1, .ref a1), (2, .ref a2), (3, .int x3)] [] h Q) ∧ (((eb_X h x3.toNatClampNeg) &&& 63) = 7 → eb_Sn (d + 1) m_L_law h0 441 [(0, .ref 20), (1, .ref a1), (2, .ref a2), (3, .int x3)] [] h Q) ∧ (((eb_X h x3.toNatClampNeg) &&& 63) = 8 → eb_Sn (d + 1) m_L_law h0 464 [(0, .ref 20), (1, .ref a1), (2, .ref a2), (3, .int x3)] [] h Q) ∧ (((eb_X h x3.toNatClampNeg) &&& 63) = 9 → eb_Sn (d + 1) m_L_law h0 487 [(0, .ref 20), (1, .ref a1), (2, .ref a2), (3, .int x3)] [] h Q) ∧ (((eb_X h x3.toNatClampNeg) &&& 63) = 10 → eb_Sn (d + 1) m_L_law h0 520 [(0, .ref 20), (1, .ref a1), (2, .ref a2), (3, .int x3)] [] h Q) ∧ (((eb_X h x3.toNatClampNeg) &&& 63) = 11 → eb_Sn (d + 1) m_L_law h0 543 [(0, .ref 20), (1, .ref a1), (2, .ref a2), (3, .int x3)] [] h Q) ∧ (((eb_X h x3.toNatClampNeg) &&& 63) = 12 → eb_Sn (d + 1) m_L_law h0 566 [(0, .ref 20), (1, .ref a1), (2, .ref a2), (3, .int x3)] [] h Q) ∧ (((eb_X h x3.toNatClampNeg) &&& 63) = 13 → eb_Sn (d + 1) m_L_law h0 589 [(0, .ref 20), (1, .ref a1), (2, .ref a2), (3, .int x3)] [] h Q) ∧ (((eb_X h x3.toNatClampNeg) &&& 63) = 14 → eb_Sn (d + 1) m_L_law h0 622 [(0, .ref 20), (1, .ref a1), (2, .ref a2), (3, .int x3)] [] h Q) ∧ (((eb_X h x3.toNatClampNeg) &&& 63) = 15 → eb_Sn (d + 1) m_L_law h0 645 [(0, .ref 20), (1, .ref a1), (2, .ref a2), (3, .int x3)] [] h Q) ∧ (((eb_X h x3.toNatClampNeg) &&& 63) = 16 → eb_Sn (d + 1) m_L_law h0 678 [(0, .ref 20), (1, .ref a1), (2, .ref a2), (3, .int x3)] [] h Q) ∧ (((eb_X h x3.toNatClampNeg) &&& 63) = 17 → eb_Sn (d + 1) m_L_law h0 721 [(0, .ref 20), (1, .ref a1), (2, .ref a2), (3, .int x3)] [] h Q) ∧ (((eb_X h x3.toNatClampNeg) &&& 63) = 18 → eb_Sn (d + 1) m_L_law h0 774 [(0, .ref 20), (1, .ref a1), (2, .ref a2), (3, .int x3)] [] h Q) ∧ (((eb_X h x3.toNatClampNeg) &&& 63) = 19 → eb_Sn (d + 1) m_L_law h0 828 [(0, .ref 20), (1, .ref a1), (2, .ref a2), (3, .int x3)] [] h Q) ∧ (((eb_X h x3.toNatClampNeg) &&& 63) = 20 → eb_Sn (d + 1) m_L_law h0 871 [(0, .ref 20), (1, .ref a1), (2, .ref a2), (3, .int x3)] [] h Q) ∧ (((eb_X h x3.toNatClampNeg) &&& 63) = 21 → eb_Sn (d + 1) m_L_law h0 884 [(0, .ref 20), (1, .ref a1), (2, .ref a2), (3, .int x3)] [] h Q) ∧ (((eb_X h x3.toNatClampNeg) &&& 63) = 22 → eb_Sn (d + 1) m_L_law h0 897 [(0, .ref 20), (1, .ref a1), (2, .ref a2), (3, .int x3)] [] h Q) ∧ (((eb_X h x3.toNatClampNeg) &&& 63) = 23 → eb_Sn (d + 1) m_L_law h0 920 [(0, .ref 20), (1, .ref a1), (2, .ref a2), (3, .int x3)] [] h Q) ∧ (((eb_X h x3.toNatClampNeg) &&& 63) = 24 → eb_Sn (d + 1) m_L_law h0 943 [(0, .ref 20), (1, .ref a1), (2, .ref a2), (3, .int x3)] [] h Q) ∧ (((eb_X h x3.toNatClampNeg) &&& 63) = 25 → eb_Sn (d + 1) m_L_law h0 976 [(0, .ref 20), (1, .ref a1), (2, .ref a2), (3, .int x3)] [] h Q) ∧ (((eb_X h x3.toNatClampNeg) &&& 63) = 26 → eb_Sn (d + 1) m_L_law h0 1009 [(0, .ref 20), (1, .ref a1), (2, .ref a2), (3, .int x3)] [] h Q) ∧ (((eb_X h x3.toNatClampNeg) &&& 63) = 27 → eb_Sn (d + 1) m_L_law h0 1053 [(0, .ref 20), (1, .ref a1), (2, .ref a2), (3, .int x3)] [] h Q) ∧ (((eb_X h x3.toNatClampNeg) &&& 63) = 28 → eb_Sn (d + 1) m_L_law h0 1106 [(0, .ref 20), (1, .ref a1), (2, .ref a2), (3, .int x3)] [] h Q) ∧ (((eb_X h x3.toNatClampNeg) &&& 63) = 29 → eb_Sn (d + 1) m_L_law h0 1149 [(0, .ref 20), (1, .ref a1), (2, .ref a2), (3, .int x3)] [] h Q) ∧ (((eb_X h x3.toNatClampNeg) &&& 63) = 30 → eb_Sn (d + 1) m_L_law h0 1192 [(0, .ref 20), (1, .ref a1), (2, .ref a2), (3, .int x3)] [] h Q) ∧ (((eb_X h x3.toNatClampNeg) &&& 63) = 31 → eb_Sn (d + 1) m_L_law h0 1225 [(0, .ref 20), (1, .ref a1), (2, .ref a2), (3, .int x3)] [] h Q) ∧ (((eb_X h x3.toNatClampNeg) &&& 63) = 32 → eb_Sn (d + 1) m_L_law h0 1258 [(0, .ref 20), (1, .ref a1), (2, .ref a2), (3, .int x3)] [] h Q) ∧ (((eb_X h x3.toNatClampNeg) &&& 63) = 33 → eb_Sn (d + 1) m_L_law h0 1291 [(0, .ref 20), (1, .ref a1), (2, .ref a2), (3, .int x3)] [] h Q) ∧ (((eb_X h x3.toNatClampNeg) &&& 63) = 34 → eb_Sn (d + 1) m_L_law h0 1324 [(0, .ref 20), (1, .ref a1), (2, .ref a2), (3, .int x3)] [] h Q) ∧ (((eb_X h x3.toNatClampNeg) &&& 63) = 35 → eb_Sn (d + 1) m_L_law h0 1377 [(0, .ref 20), (1, .ref a1), (2, .ref a2), (3, .int x3)] [] h Q) ∧ (((eb_X h x3.toNatClampNeg) &&& 63) = 36 → eb_Sn (d + 1) m_L_law h0 1410 [(0, .ref 20), (1, .ref a1), (2, .ref a2), (3, .int x3)] [] h Q) ∧ (((eb_X h x3.toNatClampNeg) &&& 63) = 37 → eb_Sn (d + 1) m_L_law h0 1433 [(0, .ref 20), (1, .ref a1), (2, .ref a2), (3, .int x3)] [] h Q) ∧ (((eb_X h x3.toNatClampNeg) &&& 63) = 38 → eb_Sn (d + 1) m_L_law h0 1476 [(0, .ref 20), (1, .ref a1), (2, .ref a2), (3, .int x3)] [] h Q) ∧ (((eb_X h x3.toNatClampNeg) &&& 63) = 39 → eb_Sn (d + 1) m_L_law h0 1550 [(0, .ref 20), (1, .ref a1), (2, .ref a2), (3, .int x3)] [] h Q) ∧ (((eb_X h x3.toNatClampNeg) &&& 63) = 40 → eb_Sn (d + 1) m_L_law h0 1603 [(0, .ref 20), (1, .ref a1), (2, .ref a2), (3, .int x3)] [] h Q) ∧ (((eb_X h x3.toNatClampNeg) &&& 63) = 41 → eb_Sn (d + 1) m_L_law h0 1626 [(0, .ref 20), (1, .ref a1), (2, .ref a2), (3, .int x3)] [] h Q) ∧ (((eb_X h x3.toNatClampNeg) &&& 63) = 42 → eb_Sn (d + 1) m_L_law h0 1649 [(0, .ref 20), (1, .ref a1), (2, .ref a2), (3, .int x3)] [] h Q) ∧ (¬ ((eb_X h x3.toNatClampNeg) &&& 63) = 0 → ¬ ((eb_X h x3.toNatClampNeg) &&& 63) = 1 → ¬ ((eb_X h x3.toNatClampNeg) &&& 63) = 2 → ¬ ((eb_X h x3.toNatClampNeg) &&& 63) = 3 → ¬ ((eb_X h x3.toNatClampNeg) &&& 63) = 4 → ¬ ((eb_X h x3.toNatClampNeg) &&& 63) = 5 → ¬ ((eb_X h x3.toNatClampNeg) &&& 63) = 6 → ¬ ((eb_X h x3.toNatClampNeg) &&& 63) = 7 → ¬ ((eb_X h x3.toNatClampNeg) &&& 63) = 8 → ¬ ((eb_X h x3.toNatClampNeg) &&& 63) = 9 → ¬ ((eb_X h x3.toNatClampNeg) &&& 63) = 10 → ¬ ((eb_X h x3.toNatClampNeg) &&& 63) = 11 → ¬ ((eb_X h x3.toNatClampNeg) &&& 63) = 12 → ¬ ((eb_X h x3.toNatClampNeg) &&& 63) = 13 → ¬ ((eb_X h x3.toNatClampNeg) &&& 63) = 14 → ¬ ((eb_X h x3.toNatClampNeg) &&& 63) = 15 → ¬ ((eb_X h x3.toNatClampNeg) &&& 63) = 16 → ¬ ((eb_X h x3.toNatClampNeg) &&& 63) = 17 → ¬ ((eb_X h x3.toNatClampNeg) &&& 63) = 18 → ¬ ((eb_X h x3.toNatClampNeg) &&& 63) = 19 → ¬ ((eb_X h x3.toNatClampNeg) &&& 63) = 20 → ¬ ((eb_X h x3.toNatClampNeg) &&& 63) = 21 → ¬ ((eb_X h x3.toNatClampNeg) &&& 63) = 22 → ¬ ((eb_X h x3.toNatClampNeg) &&& 63) = 23 → ¬ ((eb_X h x3.toNatClampNeg) &&& 63) = 24 → ¬ ((eb_X h x3.toNatClampNeg) &&& 63) = 25 → ¬ ((eb_X h x3.toNatClampNeg) &&& 63) = 26 → ¬ ((eb_X h x3.toNatClampNeg) &&& 63) = 27 → ¬ ((eb_X h x3.toNatClampNeg) &&& 63) = 28 → ¬ ((eb_X h x3.toNatClampNeg) &&& 63) = 29 → ¬ ((eb_X h x3.toNatClampNeg) &&& 63) = 30 → ¬ ((eb_X h x3.toNatClampNeg) &&& 63) = 31 → ¬ ((eb_X h x3.toNatClampNeg) &&& 63) = 32 → ¬ ((eb_X h x3.toNatClampNeg) &&& 63) = 33 → ¬ ((eb_X h x3.toNatClampNeg) &&& 63) = 34 → ¬ ((eb_X h x3.toNatClampNeg) &&& 63) = 35 → ¬ ((eb_X h x3.toNatClampNeg) &&& 63) = 36 → ¬ ((eb_X h x3.toNatClampNeg) &&& 63) = 37 → ¬ ((eb_X h x3.toNatClampNeg) &&& 63) = 38 → ¬ ((eb_X h x3.toNatClampNeg) &&& 63) = 39 → ¬ ((eb_X h x3.toNatClampNeg) &&& 63) = 40 → ¬ ((eb_X h x3.toNatClampNeg) &&& 63) = 41 → ¬ ((eb_X h x3.toNatClampNeg) &&& 63) = 42 → eb_Sn (d + 1) m_L_law h0 1672 [(0, .ref 20), (1, .ref a1), (2, .ref a2), (3, .int x3)] [] h Q))))) : eb_Sn (d + 1) m_L_law h0 18 [(0, .ref 20), (1, .ref a1), (2, .ref a2), (3, .int x3)] [] h Q := by
  refine eb_iload_n (pc := 18) (n := 3) (i := 3) rfl rfl rfl ?_
  refine eb_aload_n (pc := 19) (n := 0) (i := 0) rfl rfl rfl ?_
  refine eb_slen (pc := 20) rfl rfl ?_
  refine eb_bipush (pc := 21) (n := 6) (v := 6) rfl rfl ?_
  refine eb_isub (pc := 23) rfl ?_
  refine eb_icmp_gt (pc := 24) (tgt := 1678) rfl (by decide) (fun c1 => ?_) (fun c1 => ?_)
  · replace w := w.1 c1
    refine eb_iconst (pc := 1678) (n := 1) (v := 1) rfl rfl ?_
    exact eb_ireturn (pc := 1679) rfl rfl (by decide) w
  · replace w := w.2 c1
    refine eb_aload_n (pc := 27) (n := 0) (i := 0) rfl rfl rfl ?_
    refine eb_iload_n (pc := 28) (n := 3) (i := 3) rfl rfl rfl ?_
    obtain ⟨c2, w⟩ := w
    refine eb_sload (pc := 29) rfl c2 ?_
    refine eb_bipush (pc := 30) (n := 63) (v := 63) rfl rfl ?_
    refine eb_iand (pc := 32) rfl ?_
    by_cases s0 : ((eb_X h x3.toNatClampNeg) &&& 63) = 0
    · refine eb_tableIn (pc := 33) (j := 0) (tgt := 220) (by rw [s0]; decide) (by decide) (by rfl) (by decide) rfl ?_
      replace w := w.1 s0
      exact eb_pick [0, 1, 2, 3] rfl w
    by_cases s1 : ((eb_X h x3.toNatClampNeg) &&& 63) = 1
    · refine eb_tableIn (pc := 33) (j := 1) (tgt := 283) (by rw [s1]; decide) (by decide) (by rfl) (by decide) rfl ?_
      replace w := w.2.1 s1
      exact eb_pick [0, 1, 2, 3] rfl w
    by_cases s2 : ((eb_X h x3.toNatClampNeg) &&& 63) = 2
    · refine eb_tableIn (pc := 33) (j := 2) (tgt := 306) (by rw [s2]; decide) (by decide) (by rfl) (by decide) rfl ?_
      replace w := w.2.2.1 s2
      exact eb_pick [0, 1, 2, 3] rfl w
    by_cases s3 : ((eb_X h x3.toNatClampNeg) &&& 63) = 3
    · refine eb_tableIn (pc := 33) (j := 3) (tgt := 329) (by rw [s3]; decide) (by decide) (by rfl) (by decide) rfl ?_
      replace w := w.2.2.2.1 s3
      exact eb_pick [0, 1, 2, 3] rfl w
    by_cases s4 : ((eb_X h x3.toNatClampNeg) &&& 63) = 4
    · refine eb_tableIn (pc := 33) (j := 4) (tgt := 362) (by rw [s4]; decide) (by decide) (by rfl) (by decide) rfl ?_
      replace w := w.2.2.2.2.1 s4
      exact eb_pick [0, 1, 2, 3] rfl w
    by_cases s5 : ((eb_X h x3.toNatClampNeg) &&& 63) = 5
    · refine eb_tableIn (pc := 33) (j := 5) (tgt := 385) (by rw [s5]; decide) (by decide) (by rfl) (by decide) rfl ?_
      replace w := w.2.2.2.2.2.1 s5
      exact eb_pick [0, 1, 2, 3] rfl w
    by_cases s6 : ((eb_X h x3.toNatClampNeg) &&& 63) = 6
    · refine eb_tableIn (pc := 33) (j := 6) (tgt := 408) (by rw [s6]; decide) (by decide) (by rfl) (by decide) rfl ?_
      replace w := w.2.2.2.2.2.2.1 s6
      exact eb_pick [0, 1, 2, 3] rfl w
    by_cases s7 : ((eb_X h x3.toNatClampNeg) &&& 63) = 7
    · refine eb_tableIn (pc := 33) (j := 7) (tgt := 441) (by rw [s7]; decide) (by decide) (by rfl) (by decide) rfl ?_
      replace w := w.2.2.2.2.2.2.2.1 s7
      exact eb_pick [0, 1, 2, 3] rfl w
    by_cases s8 : ((eb_X h x3.toNatClampNeg) &&& 63) = 8
    · refine eb_tableIn (pc := 33) (j := 8) (tgt := 464) (by rw [s8]; decide) (by decide) (by rfl) (by decide) rfl ?_
      replace w := w.2.2.2.2.2.2.2.2.1 s8
      exact eb_pick [0, 1, 2, 3] rfl w
    by_cases s9 : ((eb_X h x3.toNatClampNeg) &&& 63) = 9
    · refine eb_tableIn (pc := 33) (j := 9) (tgt := 487) (by rw [s9]; decide) (by decide) (by rfl) (by decide) rfl ?_
      replace w := w.2.2.2.2.2.2.2.2.2.1 s9
      exact eb_pick [0, 1, 2, 3] rfl w
    by_cases s10 : ((eb_X h x3.toNatClampNeg) &&& 63) = 10
    · refine eb_tableIn (pc := 33) (j := 10) (tgt := 520) (by rw [s10]; decide) (by decide) (by rfl) (by decide) rfl ?_
      replace w := w.2.2.2.2.2.2.2.2.2.2.1 s10
      exact eb_pick [0, 1, 2, 3] rfl w
    by_cases s11 : ((eb_X h x3.toNatClampNeg) &&& 63) = 11
    · refine eb_tableIn (pc := 33) (j := 11) (tgt := 543) (by rw [s11]; decide) (by decide) (by rfl) (by decide) rfl ?_
      replace w := w.2.2.2.2.2.2.2.2.2.2.2.1 s11
      exact eb_pick [0, 1, 2, 3] rfl w
    by_cases s12 : ((eb_X h x3.toNatClampNeg) &&& 63) = 12
    · refine eb_tableIn (pc := 33) (j := 12) (tgt := 566) (by rw [s12]; decide) (by decide) (by rfl) (by decide) rfl ?_
      replace w := w.2.2.2.2.2.2.2.2.2.2.2.2.1 s12
      exact eb_pick [0, 1, 2, 3] rfl w
    by_cases s13 : ((eb_X h x3.toNatClampNeg) &&& 63) = 13
    · refine eb_tableIn (pc := 33) (j := 13) (tgt := 589) (by rw [s13]; decide) (by decide) (by rfl) (by decide) rfl ?_
      replace w := w.2.2.2.2.2.2.2.2.2.2.2.2.2.1 s13
      exact eb_pick [0, 1, 2, 3] rfl w
    by_cases s14 : ((eb_X h x3.toNatClampNeg) &&& 63) = 14
    · refine eb_tableIn (pc := 33) (j := 14) (tgt := 622) (by rw [s14]; decide) (by decide) (by rfl) (by decide) rfl ?_
      replace w := w.2.2.2.2.2.2.2.2.2.2.2.2.2.2.1 s14
      exact eb_pick [0, 1, 2, 3] rfl w
    by_cases s15 : ((eb_X h x3.toNatClampNeg) &&& 63) = 15
    · refine eb_tableIn (pc := 33) (j := 15) (tgt := 645) (by rw [s15]; decide) (by decide) (by rfl) (by decide) rfl ?_
      replace w := w.2.2.2.2.2.2.2.2.2.2.2.2.2.2.2.1 s15
      exact eb_pick [0, 1, 2, 3] rfl w
    by_cases s16 : ((eb_X h x3.toNatClampNeg) &&& 63) = 16
    · refine eb_tableIn (pc := 33) (j := 16) (tgt := 678) (by rw [s16]; decide) (by decide) (by rfl) (by decide) rfl ?_
      replace w := w.2.2.2.2.2.2.2.2.2.2.2.2.2.2.2.2.1 s16
      exact eb_pick [0, 1, 2, 3] rfl w
    by_cases s17 : ((eb_X h x3.toNatClampNeg) &&& 63) = 17
    · refine eb_tableIn (pc := 33) (j := 17) (tgt := 721) (by rw [s17]; decide) (by decide) (by rfl) (by decide) rfl ?_
      replace w := w.2.2.2.2.2.2.2.2.2.2.2.2.2.2.2.2.2.1 s17
      exact eb_pick [0, 1, 2, 3] rfl w
    by_cases s18 : ((eb_X h x3.toNatClampNeg) &&& 63) = 18
    · refine eb_tableIn (pc := 33) (j := 18) (tgt := 774) (by rw [s18]; decide) (by decide) (by rfl) (by decide) rfl ?_
      replace w := w.2.2.2.2.2.2.2.2.2.2.2.2.2.2.2.2.2.2.1 s18
      exact eb_pick [0, 1, 2, 3] rfl w
    by_cases s19 : ((eb_X h x3.toNatClampNeg) &&& 63) = 19
    · refine eb_tableIn (pc := 33) (j := 19) (tgt := 828) (by rw [s19]; decide) (by decide) (by rfl) (by decide) rfl ?_
      replace w := w.2.2.2.2.2.2.2.2.2.2.2.2.2.2.2.2.2.2.2.1 s19
      exact eb_pick [0, 1, 2, 3] rfl w
    by_cases s20 : ((eb_X h x3.toNatClampNeg) &&& 63) = 20
    · refine eb_tableIn (pc := 33) (j := 20) (tgt := 871) (by rw [s20]; decide) (by decide) (by rfl) (by decide) rfl ?_
      replace w := w.2.2.2.2.2.2.2.2.2.2.2.2.2.2.2.2.2.2.2.2.1 s20
      exact eb_pick [0, 1, 2, 3] rfl w
    by_cases s21 : ((eb_X h x3.toNatClampNeg) &&& 63) = 21
    · refine eb_tableIn (pc := 33) (j := 21) (tgt := 884) (by rw [s21]; decide) (by decide) (by rfl) (by decide) rfl ?_
      replace w := w.2.2.2.2.2.2.2.2.2.2.2.2.2.2.2.2.2.2.2.2.2.1 s21
      exact eb_pick [0, 1, 2, 3] rfl w
    by_cases s22 : ((eb_X h x3.toNatClampNeg) &&& 63) = 22
    · refine eb_tableIn (pc := 33) (j := 22) (tgt := 897) (by rw [s22]; decide) (by decide) (by rfl) (by decide) rfl ?_
      replace w := w.2.2.2.2.2.2.2.2.2.2.2.2.2.2.2.2.2.2.2.2.2.2.1 s22
      exact eb_pick [0, 1, 2, 3] rfl w
    by_cases s23 : ((eb_X h x3.toNatClampNeg) &&& 63) = 23
    · refine eb_tableIn (pc := 33) (j := 23) (tgt := 920) (by rw [s23]; decide) (by decide) (by rfl) (by decide) rfl ?_
      replace w := w.2.2.2.2.2.2.2.2.2.2.2.2.2.2.2.2.2.2.2.2.2.2.2.1 s23
      exact eb_pick [0, 1, 2, 3] rfl w
    by_cases s24 : ((eb_X h x3.toNatClampNeg) &&& 63) = 24
    · refine eb_tableIn (pc := 33) (j := 24) (tgt := 943) (by rw [s24]; decide) (by decide) (by rfl) (by decide) rfl ?_
      replace w := w.2.2.2.2.2.2.2.2.2.2.2.2.2.2.2.2.2.2.2.2.2.2.2.2.1 s24
      exact eb_pick [0, 1, 2, 3] rfl w
    by_cases s25 : ((eb_X h x3.toNatClampNeg) &&& 63) = 25
    · refine eb_tableIn (pc := 33) (j := 25) (tgt := 976) (by rw [s25]; decide) (by decide) (by rfl) (by decide) rfl ?_
      replace w := w.2.2.2.2.2.2.2.2.2.2.2.2.2.2.2.2.2.2.2.2.2.2.2.2.2.1 s25
      exact eb_pick [0, 1, 2, 3] rfl w
    by_cases s26 : ((eb_X h x3.toNatClampNeg) &&& 63) = 26
    · refine eb_tableIn (pc := 33) (j := 26) (tgt := 1009) (by rw [s26]; decide) (by decide) (by rfl) (by decide) rfl ?_
      replace w := w.2.2.2.2.2.2.2.2.2.2.2.2.2.2.2.2.2.2.2.2.2.2.2.2.2.2.1 s26
      exact eb_pick [0, 1, 2, 3] rfl w
    by_cases s27 : ((eb_X h x3.toNatClampNeg) &&& 63) = 27
    · refine eb_tableIn (pc := 33) (j := 27) (tgt := 1053) (by rw [s27]; decide) (by decide) (by rfl) (by decide) rfl ?_
      replace w := w.2.2.2.2.2.2.2.2.2.2.2.2.2.2.2.2.2.2.2.2.2.2.2.2.2.2.2.1 s27
      exact eb_pick [0, 1, 2, 3] rfl w
    by_cases s28 : ((eb_X h x3.toNatClampNeg) &&& 63) = 28
    · refine eb_tableIn (pc := 33) (j := 28) (tgt := 1106) (by rw [s28]; decide) (by decide) (by rfl) (by decide) rfl ?_
      replace w := w.2.2.2.2.2.2.2.2.2.2.2.2.2.2.2.2.2.2.2.2.2.2.2.2.2.2.2.2.1 s28
      exact eb_pick [0, 1, 2, 3] rfl w
    by_cases s29 : ((eb_X h x3.toNatClampNeg) &&& 63) = 29
    · refine eb_tableIn (pc := 33) (j := 29) (tgt := 1149) (by rw [s29]; decide) (by decide) (by rfl) (by decide) rfl ?_
      replace w := w.2.2.2.2.2.2.2.2.2.2.2.2.2.2.2.2.2.2.2.2.2.2.2.2.2.2.2.2.2.1 s29
      exact eb_pick [0, 1, 2, 3] rfl w
    by_cases s30 : ((eb_X h x3.toNatClampNeg) &&& 63) = 30
    · refine eb_tableIn (pc := 33) (j := 30) (tgt := 1192) (by rw [s30]; decide) (by decide) (by rfl) (by decide) rfl ?_
      replace w := w.2.2.2.2.2.2.2.2.2.2.2.2.2.2.2.2.2.2.2.2.2.2.2.2.2.2.2.2.2.2.1 s30
      exact eb_pick [0, 1, 2, 3] rfl w
    by_cases s31 : ((eb_X h x3.toNatClampNeg) &&& 63) = 31
    · refine eb_tableIn (pc := 33) (j := 31) (tgt := 1225) (by rw [s31]; decide) (by decide) (by rfl) (by decide) rfl ?_
      replace w := w.2.2.2.2.2.2.2.2.2.2.2.2.2.2.2.2.2.2.2.2.2.2.2.2.2.2.2.2.2.2.2.1 s31
      exact eb_pick [0, 1, 2, 3] rfl w
    by_cases s32 : ((eb_X h x3.toNatClampNeg) &&& 63) = 32
    · refine eb_tableIn (pc := 33) (j := 32) (tgt := 1258) (by rw [s32]; decide) (by decide) (by rfl) (by decide) rfl ?_
      replace w := w.2.2.2.2.2.2.2.2.2.2.2.2.2.2.2.2.2.2.2.2.2.2.2.2.2.2.2.2.2.2.2.2.1 s32
      exact eb_pick [0, 1, 2, 3] rfl w
    by_cases s33 : ((eb_X h x3.toNatClampNeg) &&& 63) = 33
    · refine eb_tableIn (pc := 33) (j := 33) (tgt := 1291) (by rw [s33]; decide) (by decide) (by rfl) (by decide) rfl ?_
      replace w := w.2.2.2.2.2.2.2.2.2.2.2.2.2.2.2.2.2.2.2.2.2.2.2.2.2.2.2.2.2.2.2.2.2.1 s33
      exact eb_pick [0, 1, 2, 3] rfl w
    by_cases s34 : ((eb_X h x3.toNatClampNeg) &&& 63) = 34
    · refine eb_tableIn (pc := 33) (j := 34) (tgt := 1324) (by rw [s34]; decide) (by decide) (by rfl) (by decide) rfl ?_
      replace w := w.2.2.2.2.2.2.2.2.2.2.2.2.2.2.2.2.2.2.2.2.2.2.2.2.2.2.2.2.2.2.2.2.2.2.1 s34
      exact eb_pick [0, 1, 2, 3] rfl w
    by_cases s35 : ((eb_X h x3.toNatClampNeg) &&& 63) = 35
    · refine eb_tableIn (pc := 33) (j := 35) (tgt := 1377) (by rw [s35]; decide) (by decide) (by rfl) (by decide) rfl ?_
      replace w := w.2.2.2.2.2.2.2.2.2.2.2.2.2.2.2.2.2.2.2.2.2.2.2.2.2.2.2.2.2.2.2.2.2.2.2.1 s35
      exact eb_pick [0, 1, 2, 3] rfl w
    by_cases s36 : ((eb_X h x3.toNatClampNeg) &&& 63) = 36
    · refine eb_tableIn (pc := 33) (j := 36) (tgt := 1410) (by rw [s36]; decide) (by decide) (by rfl) (by decide) rfl ?_
      replace w := w.2.2.2.2.2.2.2.2.2.2.2.2.2.2.2.2.2.2.2.2.2.2.2.2.2.2.2.2.2.2.2.2.2.2.2.2.1 s36
      exact eb_pick [0, 1, 2, 3] rfl w
    by_cases s37 : ((eb_X h x3.toNatClampNeg) &&& 63) = 37
    · refine eb_tableIn (pc := 33) (j := 37) (tgt := 1433) (by rw [s37]; decide) (by decide) (by rfl) (by decide) rfl ?_
      replace w := w.2.2.2.2.2.2.2.2.2.2.2.2.2.2.2.2.2.2.2.2.2.2.2.2.2.2.2.2.2.2.2.2.2.2.2.2.2.1 s37
      exact eb_pick [0, 1, 2, 3] rfl w
    by_cases s38 : ((eb_X h x3.toNatClampNeg) &&& 63) = 38
    · refine eb_tableIn (pc := 33) (j := 38) (tgt := 1476) (by rw [s38]; decide) (by decide) (by rfl) (by decide) rfl ?_
      replace w := w.2.2.2.2.2.2.2.2.2.2.2.2.2.2.2.2.2.2.2.2.2.2.2.2.2.2.2.2.2.2.2.2.2.2.2.2.2.2.1 s38
      exact eb_pick [0, 1, 2, 3] rfl w
    by_cases s39 : ((eb_X h x3.toNatClampNeg) &&& 63) = 39
    · refine eb_tableIn (pc := 33) (j := 39) (tgt := 1550) (by rw [s39]; decide) (by decide) (by rfl) (by decide) rfl ?_
      replace w := w.2.2.2.2.2.2.2.2.2.2.2.2.2.2.2.2.2.2.2.2.2.2.2.2.2.2.2.2.2.2.2.2.2.2.2.2.2.2.2.1 s39
      exact eb_pick [0, 1, 2, 3] rfl w
    by_cases s40 : ((eb_X h x3.toNatClampNeg) &&& 63) = 40
    · refine eb_tableIn (pc := 33) (j := 40) (tgt := 1603) (by rw [s40]; decide) (by decide) (by rfl) (by decide) rfl ?_
      replace w := w.2.2.2.2.2.2.2.2.2.2.2.2.2.2.2.2.2.2.2.2.2.2.2.2.2.2.2.2.2.2.2.2.2.2.2.2.2.2.2.2.1 s40
      exact eb_pick [0, 1, 2, 3] rfl w
    by_cases s41 : ((eb_X h x3.toNatClampNeg) &&& 63) = 41
    · refine eb_tableIn (pc := 33) (j := 41) (tgt := 1626) (by rw [s41]; decide) (by decide) (by rfl) (by decide) rfl ?_
      replace w := w.2.2.2.2.2.2.2.2.2.2.2.2.2.2.2.2.2.2.2.2.2.2.2.2.2.2.2.2.2.2.2.2.2.2.2.2.2.2.2.2.2.1 s41
      exact eb_pick [0, 1, 2, 3] rfl w
    by_cases s42 : ((eb_X h x3.toNatClampNeg) &&& 63) = 42
    · refine eb_tableIn (pc := 33) (j := 42) (tgt := 1649) (by rw [s42]; decide) (by decide) (by rfl) (by decide) rfl ?_
      replace w := w.2.2.2.2.2.2.2.2.2.2.2.2.2.2.2.2.2.2.2.2.2.2.2.2.2.2.2.2.2.2.2.2.2.2.2.2.2.2.2.2.2.2.1 s42
      exact eb_pick [0, 1, 2, 3] rfl w
    refine eb_tableOut (pc := 33) (tgt := 1672) (by have z0 := lv_neT (a := 0) s0 (by decide); have z1 := lv_neT (a := 1) s1 (by decide); have z2 := lv_neT (a := 2) s2 (by decide); have z3 := lv_neT (a := 3) s3 (by decide); have z4 := lv_neT (a := 4) s4 (by decide); have z5 := lv_neT (a := 5) s5 (by decide); have z6 := lv_neT (a := 6) s6 (by decide); have z7 := lv_neT (a := 7) s7 (by decide); have z8 := lv_neT (a := 8) s8 (by decide); have z9 := lv_neT (a := 9) s9 (by decide); have z10 := lv_neT (a := 10) s10 (by decide); have z11 := lv_neT (a := 11) s11 (by decide); have z12 := lv_neT (a := 12) s12 (by decide); have z13 := lv_neT (a := 13) s13 (by decide); have z14 := lv_neT (a := 14) s14 (by decide); have z15 := lv_neT (a := 15) s15 (by decide); have z16 := lv_neT (a := 16) s16 (by decide); have z17 := lv_neT (a := 17) s17 (by decide); have z18 := lv_neT (a := 18) s18 (by decide); have z19 := lv_neT (a := 19) s19 (by decide); have z20 := lv_neT (a := 20) s20 (by decide); have z21 := lv_neT (a := 21) s21 (by decide); have z22 := lv_neT (a := 22) s22 (by decide); have z23 := lv_neT (a := 23) s23 (by decide); have z24 := lv_neT (a := 24) s24 (by decide); have z25 := lv_neT (a := 25) s25 (by decide); have z26 := lv_neT (a := 26) s26 (by decide); have z27 := lv_neT (a := 27) s27 (by decide); have z28 := lv_neT (a := 28) s28 (by decide); have z29 := lv_neT (a := 29) s29 (by decide); have z30 := lv_neT (a := 30) s30 (by decide); have z31 := lv_neT (a := 31) s31 (by decide); have z32 := lv_neT (a := 32) s32 (by decide); have z33 := lv_neT (a := 33) s33 (by decide); have z34 := lv_neT (a := 34) s34 (by decide); have z35 := lv_neT (a := 35) s35 (by decide); have z36 := lv_neT (a := 36) s36 (by decide); have z37 := lv_neT (a := 37) s37 (by decide); have z38 := lv_neT (a := 38) s38 (by decide); have z39 := lv_neT (a := 39) s39 (by decide); have z40 := lv_neT (a := 40) s40 (by decide); have z41 := lv_neT (a := 41) s41 (by decide); have z42 := lv_neT (a := 42) s42 (by decide); omega) (by decide) rfl ?_
    replace w := w.2.2.2.2.2.2.2.2.2.2.2.2.2.2.2.2.2.2.2.2.2.2.2.2.2.2.2.2.2.2.2.2.2.2.2.2.2.2.2.2.2.2.2 s0 s1 s2 s3 s4 s5 s6 s7 s8 s9 s10 s11 s12 s13 s14 s15 s16 s17 s18 s19 s20 s21 s22 s23 s24 s25 s26 s27 s28 s29 s30 s31 s32 s33 s34 s35 s36 s37 s38 s39 s40 s41 s42
    exact eb_pick [0, 1, 2, 3] rfl w
set_option maxRecDepth 200000 in
theorem b_L_law_220 {d : Nat} {h0 h : eb_H} {Q : Option Value → eb_H → Prop} (a1 : Nat) (a2 : Nat) (x3 : Int32) (ka1 : eb_kd a1 = 10) (ka2 : eb_kd a2 = 11) (ko : eb_KO h) (w : (vp_in (x3 + 1) (eb_XL h)) ∧ (vp_in (x3 + 2) (eb_XL h)) ∧ (vp_in (x3 + 3) (eb_XL h)) ∧ (vp_in (x3 + 4) (eb_XL h)) ∧ (vp_in (x3 + 5) (eb_XL h)) ∧ eb_Ct d 96 [.ref a1, .int (eb_X h (x3 + 1).toNatClampNeg), .int (eb_X h (x3 + 2).toNatClampNeg), .int (eb_X h (x3 + 3).toNatClampNeg), .int (eb_X h (x3 + 4).toNatClampNeg), .int (eb_X h (x3 + 5).toNatClampNeg)] h (fun r h6 => ∃ y7, r = some (.int y7) ∧ eb_KO h6 ∧ (vp_in (x3 + 1) (eb_XL h6)) ∧ (vp_in (x3 + 2) (eb_XL h6)) ∧ (vp_in (x3 + 3) (eb_XL h6)) ∧ (vp_in (x3 + 4) (eb_XL h6)) ∧ (vp_in (x3 + 5) (eb_XL h6)) ∧ eb_Ct d 159 [.ref a2, .int (eb_X h6 (x3 + 1).toNatClampNeg), .int (eb_X h6 (x3 + 2).toNatClampNeg), .int (eb_X h6 (x3 + 3).toNatClampNeg), .int (eb_X h6 (x3 + 4).toNatClampNeg), .int (eb_X h6 (x3 + 5).toNatClampNeg)] h6 (fun r h14 => ∃ y15, r = some (.int y15) ∧ eb_KO h14 ∧ ((y7 = y15 → eb_Sn (d + 1) m_L_law h0 1672 [(0, .ref 20), (1, .ref a1), (2, .ref a2), (3, .int x3)] [] h14 Q) ∧ (¬ (y7 = y15) → Q (some (.int 0)) h14))))) : eb_Sn (d + 1) m_L_law h0 220 [(0, .ref 20), (1, .ref a1), (2, .ref a2), (3, .int x3)] [] h Q := by
  refine eb_aload_n (pc := 220) (n := 1) (i := 1) rfl rfl rfl ?_
  refine eb_aload_n (pc := 221) (n := 0) (i := 0) rfl rfl rfl ?_
  refine eb_iload_n (pc := 222) (n := 3) (i := 3) rfl rfl rfl ?_
  refine eb_iconst (pc := 223) (n := 1) (v := 1) rfl rfl ?_
  refine eb_iadd (pc := 224) rfl ?_
  obtain ⟨c1, w⟩ := w
  refine eb_sload (pc := 225) rfl c1 ?_
  refine eb_aload_n (pc := 226) (n := 0) (i := 0) rfl rfl rfl ?_
  refine eb_iload_n (pc := 227) (n := 3) (i := 3) rfl rfl rfl ?_
  refine eb_iconst (pc := 228) (n := 2) (v := 2) rfl rfl ?_
  refine eb_iadd (pc := 229) rfl ?_
  obtain ⟨c2, w⟩ := w
  refine eb_sload (pc := 230) rfl c2 ?_
  refine eb_aload_n (pc := 231) (n := 0) (i := 0) rfl rfl rfl ?_
  refine eb_iload_n (pc := 232) (n := 3) (i := 3) rfl rfl rfl ?_
  refine eb_iconst (pc := 233) (n := 3) (v := 3) rfl rfl ?_
  refine eb_iadd (pc := 234) rfl ?_
  obtain ⟨c3, w⟩ := w
  refine eb_sload (pc := 235) rfl c3 ?_
  refine eb_aload_n (pc := 236) (n := 0) (i := 0) rfl rfl rfl ?_
  refine eb_iload_n (pc := 237) (n := 3) (i := 3) rfl rfl rfl ?_
  refine eb_iconst (pc := 238) (n := 4) (v := 4) rfl rfl ?_
  refine eb_iadd (pc := 239) rfl ?_
  obtain ⟨c4, w⟩ := w
  refine eb_sload (pc := 240) rfl c4 ?_
  refine eb_aload_n (pc := 241) (n := 0) (i := 0) rfl rfl rfl ?_
  refine eb_iload_n (pc := 242) (n := 3) (i := 3) rfl rfl rfl ?_
  refine eb_iconst (pc := 243) (n := 5) (v := 5) rfl rfl ?_
  refine eb_iadd (pc := 244) rfl ?_
  obtain ⟨c5, w⟩ := w
  refine eb_sload (pc := 245) rfl c5 ?_
  refine eb_ctV (pc := 246) (As := [.int (eb_X h (x3 + 1).toNatClampNeg), .int (eb_X h (x3 + 2).toNatClampNeg), .int (eb_X h (x3 + 3).toNatClampNeg), .int (eb_X h (x3 + 4).toNatClampNeg), .int (eb_X h (x3 + 5).toNatClampNeg)]) (rest := []) rfl (by decide) rfl ka1 (by decide) rfl (Nat.le_of_ble_eq_true rfl) ?_
  refine eb_Ct.mono w ?_
  rintro r h6 ⟨y7, rfl, ko8, w⟩
  change eb_Sn _ _ _ 249 _ [.int y7] _ _
  refine eb_aload_n (pc := 249) (n := 2) (i := 2) rfl rfl rfl ?_
  refine eb_aload_n (pc := 250) (n := 0) (i := 0) rfl rfl rfl ?_
  refine eb_iload_n (pc := 251) (n := 3) (i := 3) rfl rfl rfl ?_
  refine eb_iconst (pc := 252) (n := 1) (v := 1) rfl rfl ?_
  refine eb_iadd (pc := 253) rfl ?_
  obtain ⟨c9, w⟩ := w
  refine eb_sload (pc := 254) rfl c9 ?_
  refine eb_aload_n (pc := 255) (n := 0) (i := 0) rfl rfl rfl ?_
  refine eb_iload_n (pc := 256) (n := 3) (i := 3) rfl rfl rfl ?_
  refine eb_iconst (pc := 257) (n := 2) (v := 2) rfl rfl ?_
  refine eb_iadd (pc := 258) rfl ?_
  obtain ⟨c10, w⟩ := w
  refine eb_sload (pc := 259) rfl c10 ?_
  refine eb_aload_n (pc := 260) (n := 0) (i := 0) rfl rfl rfl ?_
  refine eb_iload_n (pc := 261) (n := 3) (i := 3) rfl rfl rfl ?_
  refine eb_iconst (pc := 262) (n := 3) (v := 3) rfl rfl ?_
  refine eb_iadd (pc := 263) rfl ?_
  obtain ⟨c11, w⟩ := w
  refine eb_sload (pc := 264) rfl c11 ?_
  refine eb_aload_n (pc := 265) (n := 0) (i := 0) rfl rfl rfl ?_
  refine eb_iload_n (pc := 266) (n := 3) (i := 3) rfl rfl rfl ?_
  refine eb_iconst (pc := 267) (n := 4) (v := 4) rfl rfl ?_
  refine eb_iadd (pc := 268) rfl ?_
  obtain ⟨c12, w⟩ := w
  refine eb_sload (pc := 269) rfl c12 ?_
  refine eb_aload_n (pc := 270) (n := 0) (i := 0) rfl rfl rfl ?_
  refine eb_iload_n (pc := 271) (n := 3) (i := 3) rfl rfl rfl ?_
  refine eb_iconst (pc := 272) (n := 5) (v := 5) rfl rfl ?_
  refine eb_iadd (pc := 273) rfl ?_
  obtain ⟨c13, w⟩ := w
  refine eb_sload (pc := 274) rfl c13 ?_
  refine eb_ctV (pc := 275) (As := [.int (eb_X h6 (x3 + 1).toNatClampNeg), .int (eb_X h6 (x3 + 2).toNatClampNeg), .int (eb_X h6 (x3 + 3).toNatClampNeg), .int (eb_X h6 (x3 + 4).toNatClampNeg), .int (eb_X h6 (x3 + 5).toNatClampNeg)]) (rest := [.int y7]) rfl (by decide) rfl ka2 (by decide) rfl (Nat.le_of_ble_eq_true rfl) ?_
  refine eb_Ct.mono w ?_
  rintro r h14 ⟨y15, rfl, ko16, w⟩
  change eb_Sn _ _ _ 278 _ [.int y15, .int y7] _ _
  refine eb_icmp_eq (pc := 278) (tgt := 1672) rfl (by decide) (fun c17 => ?_) (fun c17 => ?_)
  · replace w := w.1 c17
    exact eb_pick [0, 1, 2, 3] rfl w
  · replace w := w.2 c17
    refine eb_iconst (pc := 281) (n := 0) (v := 0) rfl rfl ?_
    exact eb_ireturn (pc := 282) rfl rfl (by decide) w
set_option maxRecDepth 200000 in
theorem b_L_law_283 {d : Nat} {h0 h : eb_H} {Q : Option Value → eb_H → Prop} (a1 : Nat) (a2 : Nat) (x3 : Int32) (ka1 : eb_kd a1 = 10) (ka2 : eb_kd a2 = 11) (ko : eb_KO h) (w : (vp_in (x3 + 1) (eb_XL h)) ∧ eb_Ct d 97 [.ref a1, .int (eb_X h (x3 + 1).toNatClampNeg)] h (fun r h2 => ∃ y3, r = some (.int y3) ∧ eb_KO h2 ∧ (vp_in (x3 + 1) (eb_XL h2)) ∧ eb_Ct d 188 [.ref a2, .int (eb_X h2 (x3 + 1).toNatClampNeg)] h2 (fun r h6 => ∃ y7, r = some (.int y7) ∧ eb_KO h6 ∧ ((y3 = y7 → eb_Sn (d + 1) m_L_law h0 1672 [(0, .ref 20), (1, .ref a1), (2, .ref a2), (3, .int x3)] [] h6 Q) ∧ (¬ (y3 = y7) → Q (some (.int 0)) h6))))) : eb_Sn (d + 1) m_L_law h0 283 [(0, .ref 20), (1, .ref a1), (2, .ref a2), (3, .int x3)] [] h Q := by
  refine eb_aload_n (pc := 283) (n := 1) (i := 1) rfl rfl rfl ?_
  refine eb_aload_n (pc := 284) (n := 0) (i := 0) rfl rfl rfl ?_
  refine eb_iload_n (pc := 285) (n := 3) (i := 3) rfl rfl rfl ?_
  refine eb_iconst (pc := 286) (n := 1) (v := 1) rfl rfl ?_
  refine eb_iadd (pc := 287) rfl ?_
  obtain ⟨c1, w⟩ := w
  refine eb_sload (pc := 288) rfl c1 ?_
  refine eb_ctV (pc := 289) (As := [.int (eb_X h (x3 + 1).toNatClampNeg)]) (rest := []) rfl (by decide) rfl ka1 (by decide) rfl (Nat.le_of_ble_eq_true rfl) ?_
  refine eb_Ct.mono w ?_
  rintro r h2 ⟨y3, rfl, ko4, w⟩
  change eb_Sn _ _ _ 292 _ [.int y3] _ _
  refine eb_aload_n (pc := 292) (n := 2) (i := 2) rfl rfl rfl ?_
  refine eb_aload_n (pc := 293) (n := 0) (i := 0) rfl rfl rfl ?_
  refine eb_iload_n (pc := 294) (n := 3) (i := 3) rfl rfl rfl ?_
  refine eb_iconst (pc := 295) (n := 1) (v := 1) rfl rfl ?_
  refine eb_iadd (pc := 296) rfl ?_
  obtain ⟨c5, w⟩ := w
  refine eb_sload (pc := 297) rfl c5 ?_
  refine eb_ctV (pc := 298) (As := [.int (eb_X h2 (x3 + 1).toNatClampNeg)]) (rest := [.int y3]) rfl (by decide) rfl ka2 (by decide) rfl (Nat.le_of_ble_eq_true rfl) ?_
  refine eb_Ct.mono w ?_
  rintro r h6 ⟨y7, rfl, ko8, w⟩
  change eb_Sn _ _ _ 301 _ [.int y7, .int y3] _ _
  refine eb_icmp_eq (pc := 301) (tgt := 1672) rfl (by decide) (fun c9 => ?_) (fun c9 => ?_)
  · replace w := w.1 c9
    exact eb_pick [0, 1, 2, 3] rfl w
  · replace w := w.2 c9
    refine eb_iconst (pc := 304) (n := 0) (v := 0) rfl rfl ?_
    exact eb_ireturn (pc := 305) rfl rfl (by decide) w
set_option maxRecDepth 200000 in
theorem b_L_law_306 {d : Nat} {h0 h : eb_H} {Q : Option Value → eb_H → Prop} (a1 : Nat) (a2 : Nat) (x3 : Int32) (ka1 : eb_kd a1 = 10) (ka2 : eb_kd a2 = 11) (ko : eb_KO h) (w : (vp_in (x3 + 1) (eb_XL h)) ∧ eb_Ct d 98 [.ref a1, .int (eb_X h (x3 + 1).toNatClampNeg)] h (fun r h2 => ∃ y3, r = some (.int y3) ∧ eb_KO h2 ∧ (vp_in (x3 + 1) (eb_XL h2)) ∧ eb_Ct d 189 [.ref a2, .int (eb_X h2 (x3 + 1).toNatClampNeg)] h2 (fun r h6 => ∃ y7, r = some (.int y7) ∧ eb_KO h6 ∧ ((y3 = y7 → eb_Sn (d + 1) m_L_law h0 1672 [(0, .ref 20), (1, .ref a1), (2, .ref a2), (3, .int x3)] [] h6 Q) ∧ (¬ (y3 = y7) → Q (some (.int 0)) h6))))) : eb_Sn (d + 1) m_L_law h0 306 [(0, .ref 20), (1, .ref a1), (2, .ref a2), (3, .int x3)] [] h Q := by
  refine eb_aload_n (pc := 306) (n := 1) (i := 1) rfl rfl rfl ?_
  refine eb_aload_n (pc := 307) (n := 0) (i := 0) rfl rfl rfl ?_
  refine eb_iload_n (pc := 308) (n := 3) (i := 3) rfl rfl rfl ?_
  refine eb_iconst (pc := 309) (n := 1) (v := 1) rfl rfl ?_
  refine eb_iadd (pc := 310) rfl ?_
  obtain ⟨c1, w⟩ := w
  refine eb_sload (pc := 311) rfl c1 ?_
  refine eb_ctV (pc := 312) (As := [.int (eb_X h (x3 + 1).toNatClampNeg)]) (rest := []) rfl (by decide) rfl ka1 (by decide) rfl (Nat.le_of_ble_eq_true rfl) ?_
  refine eb_Ct.mono w ?_
  rintro r h2 ⟨y3, rfl, ko4, w⟩
  change eb_Sn _ _ _ 315 _ [.int y3] _ _
  refine eb_aload_n (pc := 315) (n := 2) (i := 2) rfl rfl rfl ?_
  refine eb_aload_n (pc := 316) (n := 0) (i := 0) rfl rfl rfl ?_
  refine eb_iload_n (pc := 317) (n := 3) (i := 3) rfl rfl rfl ?_
  refine eb_iconst (pc := 318) (n := 1) (v := 1) rfl rfl ?_
  refine eb_iadd (pc := 319) rfl ?_
  obtain ⟨c5, w⟩ := w
  refine eb_sload (pc := 320) rfl c5 ?_
  refine eb_ctV (pc := 321) (As := [.int (eb_X h2 (x3 + 1).toNatClampNeg)]) (rest := [.int y3]) rfl (by decide) rfl ka2 (by decide) rfl (Nat.le_of_ble_eq_true rfl) ?_
  refine eb_Ct.mono w ?_
  rintro r h6 ⟨y7, rfl, ko8, w⟩
  change eb_Sn _ _ _ 324 _ [.int y7, .int y3] _ _
  refine eb_icmp_eq (pc := 324) (tgt := 1672) rfl (by decide) (fun c9 => ?_) (fun c9 => ?_)
  · replace w := w.1 c9
    exact eb_pick [0, 1, 2, 3] rfl w
  · replace w := w.2 c9
    refine eb_iconst (pc := 327) (n := 0) (v := 0) rfl rfl ?_
    exact eb_ireturn (pc := 328) rfl rfl (by decide) w
set_option maxRecDepth 200000 in
theorem b_L_law_329 {d : Nat} {h0 h : eb_H} {Q : Option Value → eb_H → Prop} (a1 : Nat) (a2 : Nat) (x3 : Int32) (ka1 : eb_kd a1 = 10) (ka2 : eb_kd a2 = 11) (ko : eb_KO h) (w : (vp_in (x3 + 1) (eb_XL h)) ∧ (vp_in (x3 + 2) (eb_XL h)) ∧ eb_Ct d 99 [.ref a1, .int (eb_X h (x3 + 1).toNatClampNeg), .int (eb_X h (x3 + 2).toNatClampNeg)] h (fun r h3 => ∃ y4, r = some (.int y4) ∧ eb_KO h3 ∧ (vp_in (x3 + 1) (eb_XL h3)) ∧ (vp_in (x3 + 2) (eb_XL h3)) ∧ eb_Ct d 201 [.ref a2, .int (eb_X h3 (x3 + 1).toNatClampNeg), .int (eb_X h3 (x3 + 2).toNatClampNeg)] h3 (fun r h8 => ∃ y9, r = some (.int y9) ∧ eb_KO h8 ∧ ((y4 = y9 → eb_Sn (d + 1) m_L_law h0 1672 [(0, .ref 20), (1, .ref a1), (2, .ref a2), (3, .int x3)] [] h8 Q) ∧ (¬ (y4 = y9) → Q (some (.int 0)) h8))))) : eb_Sn (d + 1) m_L_law h0 329 [(0, .ref 20), (1, .ref a1), (2, .ref a2), (3, .int x3)] [] h Q := by
  refine eb_aload_n (pc := 329) (n := 1) (i := 1) rfl rfl rfl ?_
  refine eb_aload_n (pc := 330) (n := 0) (i := 0) rfl rfl rfl ?_
  refine eb_iload_n (pc := 331) (n := 3) (i := 3) rfl rfl rfl ?_
  refine eb_iconst (pc := 332) (n := 1) (v := 1) rfl rfl ?_
  refine eb_iadd (pc := 333) rfl ?_
  obtain ⟨c1, w⟩ := w
  refine eb_sload (pc := 334) rfl c1 ?_
  refine eb_aload_n (pc := 335) (n := 0) (i := 0) rfl rfl rfl ?_
  refine eb_iload_n (pc := 336) (n := 3) (i := 3) rfl rfl rfl ?_
  refine eb_iconst (pc := 337) (n := 2) (v := 2) rfl rfl ?_
  refine eb_iadd (pc := 338) rfl ?_
  obtain ⟨c2, w⟩ := w
  refine eb_sload (pc := 339) rfl c2 ?_
  refine eb_ctV (pc := 340) (As := [.int (eb_X h (x3 + 1).toNatClampNeg), .int (eb_X h (x3 + 2).toNatClampNeg)]) (rest := []) rfl (by decide) rfl ka1 (by decide) rfl (Nat.le_of_ble_eq_true rfl) ?_
  refine eb_Ct.mono w ?_
  rintro r h3 ⟨y4, rfl, ko5, w⟩
  change eb_Sn _ _ _ 343 _ [.int y4] _ _
  refine eb_aload_n (pc := 343) (n := 2) (i := 2) rfl rfl rfl ?_
  refine eb_aload_n (pc := 344) (n := 0) (i := 0) rfl rfl rfl ?_
  refine eb_iload_n (pc := 345) (n := 3) (i := 3) rfl rfl rfl ?_
  refine eb_iconst (pc := 346) (n := 1) (v := 1) rfl rfl ?_
  refine eb_iadd (pc := 347) rfl ?_
  obtain ⟨c6, w⟩ := w
  refine eb_sload (pc := 348) rfl c6 ?_
  refine eb_aload_n (pc := 349) (n := 0) (i := 0) rfl rfl rfl ?_
  refine eb_iload_n (pc := 350) (n := 3) (i := 3) rfl rfl rfl ?_
  refine eb_iconst (pc := 351) (n := 2) (v := 2) rfl rfl ?_
  refine eb_iadd (pc := 352) rfl ?_
  obtain ⟨c7, w⟩ := w
  refine eb_sload (pc := 353) rfl c7 ?_
  refine eb_ctV (pc := 354) (As := [.int (eb_X h3 (x3 + 1).toNatClampNeg), .int (eb_X h3 (x3 + 2).toNatClampNeg)]) (rest := [.int y4]) rfl (by decide) rfl ka2 (by decide) rfl (Nat.le_of_ble_eq_true rfl) ?_
  refine eb_Ct.mono w ?_
  rintro r h8 ⟨y9, rfl, ko10, w⟩
  change eb_Sn _ _ _ 357 _ [.int y9, .int y4] _ _
  refine eb_icmp_eq (pc := 357) (tgt := 1672) rfl (by decide) (fun c11 => ?_) (fun c11 => ?_)
  · replace w := w.1 c11
    exact eb_pick [0, 1, 2, 3] rfl w
  · replace w := w.2 c11
    refine eb_iconst (pc := 360) (n := 0) (v := 0) rfl rfl ?_
    exact eb_ireturn (pc := 361) rfl rfl (by decide) w
set_option maxRecDepth 200000 in
theorem b_L_law_362 {d : Nat} {h0 h : eb_H} {Q : Option Value → eb_H → Prop} (a1 : Nat) (a2 : Nat) (x3 : Int32) (ka1 : eb_kd a1 = 10) (ka2 : eb_kd a2 = 11) (ko : eb_KO h) (w : (vp_in (x3 + 1) (eb_XL h)) ∧ eb_Ct d 100 [.ref a1, .int (eb_X h (x3 + 1).toNatClampNeg)] h (fun r h2 => ∃ y3, r = some (.int y3) ∧ eb_KO h2 ∧ (vp_in (x3 + 1) (eb_XL h2)) ∧ eb_Ct d 202 [.ref a2, .int (eb_X h2 (x3 + 1).toNatClampNeg)] h2 (fun r h6 => ∃ y7, r = some (.int y7) ∧ eb_KO h6 ∧ ((y3 = y7 → eb_Sn (d + 1) m_L_law h0 1672 [(0, .ref 20), (1, .ref a1), (2, .ref a2), (3, .int x3)] [] h6 Q) ∧ (¬ (y3 = y7) → Q (some (.int 0)) h6))))) : eb_Sn (d + 1) m_L_law h0 362 [(0, .ref 20), (1, .ref a1), (2, .ref a2), (3, .int x3)] [] h Q := by
  refine eb_aload_n (pc := 362) (n := 1) (i := 1) rfl rfl rfl ?_
  refine eb_aload_n (pc := 363) (n := 0) (i := 0) rfl rfl rfl ?_
  refine eb_iload_n (pc := 364) (n := 3) (i := 3) rfl rfl rfl ?_
  refine eb_iconst (pc := 365) (n := 1) (v := 1) rfl rfl ?_
  refine eb_iadd (pc := 366) rfl ?_
  obtain ⟨c1, w⟩ := w
  refine eb_sload (pc := 367) rfl c1 ?_
  refine eb_ctV (pc := 368) (As := [.int (eb_X h (x3 + 1).toNatClampNeg)]) (rest := []) rfl (by decide) rfl ka1 (by decide) rfl (Nat.le_of_ble_eq_true rfl) ?_
  refine eb_Ct.mono w ?_
  rintro r h2 ⟨y3, rfl, ko4, w⟩
  change eb_Sn _ _ _ 371 _ [.int y3] _ _
  refine eb_aload_n (pc := 371) (n := 2) (i := 2) rfl rfl rfl ?_
  refine eb_aload_n (pc := 372) (n := 0) (i := 0) rfl rfl rfl ?_
  refine eb_iload_n (pc := 373) (n := 3) (i := 3) rfl rfl rfl ?_
  refine eb_iconst (pc := 374) (n := 1) (v := 1) rfl rfl ?_
  refine eb_iadd (pc := 375) rfl ?_
  obtain ⟨c5, w⟩ := w
  refine eb_sload (pc := 376) rfl c5 ?_
  refine eb_ctV (pc := 377) (As := [.int (eb_X h2 (x3 + 1).toNatClampNeg)]) (rest := [.int y3]) rfl (by decide) rfl ka2 (by decide) rfl (Nat.le_of_ble_eq_true rfl) ?_
  refine eb_Ct.mono w ?_
  rintro r h6 ⟨y7, rfl, ko8, w⟩
  change eb_Sn _ _ _ 380 _ [.int y7, .int y3] _ _
  refine eb_icmp_eq (pc := 380) (tgt := 1672) rfl (by decide) (fun c9 => ?_) (fun c9 => ?_)
  · replace w := w.1 c9
    exact eb_pick [0, 1, 2, 3] rfl w
  · replace w := w.2 c9
    refine eb_iconst (pc := 383) (n := 0) (v := 0) rfl rfl ?_
    exact eb_ireturn (pc := 384) rfl rfl (by decide) w
set_option maxRecDepth 200000 in
theorem b_L_law_385 {d : Nat} {h0 h : eb_H} {Q : Option Value → eb_H → Prop} (a1 : Nat) (a2 : Nat) (x3 : Int32) (ka1 : eb_kd a1 = 10) (ka2 : eb_kd a2 = 11) (ko : eb_KO h) (w : (vp_in (x3 + 1) (eb_XL h)) ∧ eb_Ct d 101 [.ref a1, .int (eb_X h (x3 + 1).toNatClampNeg)] h (fun r h2 => ∃ y3, r = some (.int y3) ∧ eb_KO h2 ∧ (vp_in (x3 + 1) (eb_XL h2)) ∧ eb_Ct d 204 [.ref a2, .int (eb_X h2 (x3 + 1).toNatClampNeg)] h2 (fun r h6 => ∃ y7, r = some (.int y7) ∧ eb_KO h6 ∧ ((y3 = y7 → eb_Sn (d + 1) m_L_law h0 1672 [(0, .ref 20), (1, .ref a1), (2, .ref a2), (3, .int x3)] [] h6 Q) ∧ (¬ (y3 = y7) → Q (some (.int 0)) h6))))) : eb_Sn (d + 1) m_L_law h0 385 [(0, .ref 20), (1, .ref a1), (2, .ref a2), (3, .int x3)] [] h Q := by
  refine eb_aload_n (pc := 385) (n := 1) (i := 1) rfl rfl rfl ?_
  refine eb_aload_n (pc := 386) (n := 0) (i := 0) rfl rfl rfl ?_
  refine eb_iload_n (pc := 387) (n := 3) (i := 3) rfl rfl rfl ?_
  refine eb_iconst (pc := 388) (n := 1) (v := 1) rfl rfl ?_
  refine eb_iadd (pc := 389) rfl ?_
  obtain ⟨c1, w⟩ := w
  refine eb_sload (pc := 390) rfl c1 ?_
  refine eb_ctV (pc := 391) (As := [.int (eb_X h (x3 + 1).toNatClampNeg)]) (rest := []) rfl (by decide) rfl ka1 (by decide) rfl (Nat.le_of_ble_eq_true rfl) ?_
  refine eb_Ct.mono w ?_
  rintro r h2 ⟨y3, rfl, ko4, w⟩
  change eb_Sn _ _ _ 394 _ [.int y3] _ _
  refine eb_aload_n (pc := 394) (n := 2) (i := 2) rfl rfl rfl ?_
  refine eb_aload_n (pc := 395) (n := 0) (i := 0) rfl rfl rfl ?_
  refine eb_iload_n (pc := 396) (n := 3) (i := 3) rfl rfl rfl ?_
  refine eb_iconst (pc := 397) (n := 1) (v := 1) rfl rfl ?_
  refine eb_iadd (pc := 398) rfl ?_
  obtain ⟨c5, w⟩ := w
  refine eb_sload (pc := 399) rfl c5 ?_
  refine eb_ctV (pc := 400) (As := [.int (eb_X h2 (x3 + 1).toNatClampNeg)]) (rest := [.int y3]) rfl (by decide) rfl ka2 (by decide) rfl (Nat.le_of_ble_eq_true rfl) ?_
  refine eb_Ct.mono w ?_
  rintro r h6 ⟨y7, rfl, ko8, w⟩
  change eb_Sn _ _ _ 403 _ [.int y7, .int y3] _ _
  refine eb_icmp_eq (pc := 403) (tgt := 1672) rfl (by decide) (fun c9 => ?_) (fun c9 => ?_)
  · replace w := w.1 c9
    exact eb_pick [0, 1, 2, 3] rfl w
  · replace w := w.2 c9
    refine eb_iconst (pc := 406) (n := 0) (v := 0) rfl rfl ?_
    exact eb_ireturn (pc := 407) rfl rfl (by decide) w
set_option maxRecDepth 200000 in
theorem b_L_law_408 {d : Nat} {h0 h : eb_H} {Q : Option Value → eb_H → Prop} (a1 : Nat) (a2 : Nat) (x3 : Int32) (ka1 : eb_kd a1 = 10) (ka2 : eb_kd a2 = 11) (ko : eb_KO h) (w : (vp_in (x3 + 1) (eb_XL h)) ∧ (vp_in (x3 + 2) (eb_XL h)) ∧ eb_Ct d 102 [.ref a1, .int (eb_X h (x3 + 1).toNatClampNeg), .int (eb_X h (x3 + 2).toNatClampNeg)] h (fun r h3 => ∃ y4, r = some (.int y4) ∧ eb_KO h3 ∧ (vp_in (x3 + 1) (eb_XL h3)) ∧ (vp_in (x3 + 2) (eb_XL h3)) ∧ eb_Ct d 205 [.ref a2, .int (eb_X h3 (x3 + 1).toNatClampNeg), .int (eb_X h3 (x3 + 2).toNatClampNeg)] h3 (fun r h8 => ∃ y9, r = some (.int y9) ∧ eb_KO h8 ∧ ((y4 = y9 → eb_Sn (d + 1) m_L_law h0 1672 [(0, .ref 20), (1, .ref a1), (2, .ref a2), (3, .int x3)] [] h8 Q) ∧ (¬ (y4 = y9) → Q (some (.int 0)) h8))))) : eb_Sn (d + 1) m_L_law h0 408 [(0, .ref 20), (1, .ref a1), (2, .ref a2), (3, .int x3)] [] h Q := by
  refine eb_aload_n (pc := 408) (n := 1) (i := 1) rfl rfl rfl ?_
  refine eb_aload_n (pc := 409) (n := 0) (i := 0) rfl rfl rfl ?_
  refine eb_iload_n (pc := 410) (n := 3) (i := 3) rfl rfl rfl ?_
  refine eb_iconst (pc := 411) (n := 1) (v := 1) rfl rfl ?_
  refine eb_iadd (pc := 412) rfl ?_
  obtain ⟨c1, w⟩ := w
  refine eb_sload (pc := 413) rfl c1 ?_
  refine eb_aload_n (pc := 414) (n := 0) (i := 0) rfl rfl rfl ?_
  refine eb_iload_n (pc := 415) (n := 3) (i := 3) rfl rfl rfl ?_
  refine eb_iconst (pc := 416) (n := 2) (v := 2) rfl rfl ?_
  refine eb_iadd (pc := 417) rfl ?_
  obtain ⟨c2, w⟩ := w
  refine eb_sload (pc := 418) rfl c2 ?_
  refine eb_ctV (pc := 419) (As := [.int (eb_X h (x3 + 1).toNatClampNeg), .int (eb_X h (x3 + 2).toNatClampNeg)]) (rest := []) rfl (by decide) rfl ka1 (by decide) rfl (Nat.le_of_ble_eq_true rfl) ?_
  refine eb_Ct.mono w ?_
  rintro r h3 ⟨y4, rfl, ko5, w⟩
  change eb_Sn _ _ _ 422 _ [.int y4] _ _
  refine eb_aload_n (pc := 422) (n := 2) (i := 2) rfl rfl rfl ?_
  refine eb_aload_n (pc := 423) (n := 0) (i := 0) rfl rfl rfl ?_
  refine eb_iload_n (pc := 424) (n := 3) (i := 3) rfl rfl rfl ?_
  refine eb_iconst (pc := 425) (n := 1) (v := 1) rfl rfl ?_
  refine eb_iadd (pc := 426) rfl ?_
  obtain ⟨c6, w⟩ := w
  refine eb_sload (pc := 427) rfl c6 ?_
  refine eb_aload_n (pc := 428) (n := 0) (i := 0) rfl rfl rfl ?_
  refine eb_iload_n (pc := 429) (n := 3) (i := 3) rfl rfl rfl ?_
  refine eb_iconst (pc := 430) (n := 2) (v := 2) rfl rfl ?_
  refine eb_iadd (pc := 431) rfl ?_
  obtain ⟨c7, w⟩ := w
  refine eb_sload (pc := 432) rfl c7 ?_
  refine eb_ctV (pc := 433) (As := [.int (eb_X h3 (x3 + 1).toNatClampNeg), .int (eb_X h3 (x3 + 2).toNatClampNeg)]) (rest := [.int y4]) rfl (by decide) rfl ka2 (by decide) rfl (Nat.le_of_ble_eq_true rfl) ?_
  refine eb_Ct.mono w ?_
  rintro r h8 ⟨y9, rfl, ko10, w⟩
  change eb_Sn _ _ _ 436 _ [.int y9, .int y4] _ _
  refine eb_icmp_eq (pc := 436) (tgt := 1672) rfl (by decide) (fun c11 => ?_) (fun c11 => ?_)
  · replace w := w.1 c11
    exact eb_pick [0, 1, 2, 3] rfl w
  · replace w := w.2 c11
    refine eb_iconst (pc := 439) (n := 0) (v := 0) rfl rfl ?_
    exact eb_ireturn (pc := 440) rfl rfl (by decide) w
set_option maxRecDepth 200000 in
theorem b_L_law_441 {d : Nat} {h0 h : eb_H} {Q : Option Value → eb_H → Prop} (a1 : Nat) (a2 : Nat) (x3 : Int32) (ka1 : eb_kd a1 = 10) (ka2 : eb_kd a2 = 11) (ko : eb_KO h) (w : (vp_in (x3 + 1) (eb_XL h)) ∧ eb_Ct d 103 [.ref a1, .int (eb_X h (x3 + 1).toNatClampNeg)] h (fun r h2 => ∃ y3, r = some (.int y3) ∧ eb_KO h2 ∧ (vp_in (x3 + 1) (eb_XL h2)) ∧ eb_Ct d 212 [.ref a2, .int (eb_X h2 (x3 + 1).toNatClampNeg)] h2 (fun r h6 => ∃ y7, r = some (.int y7) ∧ eb_KO h6 ∧ ((y3 = y7 → eb_Sn (d + 1) m_L_law h0 1672 [(0, .ref 20), (1, .ref a1), (2, .ref a2), (3, .int x3)] [] h6 Q) ∧ (¬ (y3 = y7) → Q (some (.int 0)) h6))))) : eb_Sn (d + 1) m_L_law h0 441 [(0, .ref 20), (1, .ref a1), (2, .ref a2), (3, .int x3)] [] h Q := by
  refine eb_aload_n (pc := 441) (n := 1) (i := 1) rfl rfl rfl ?_
  refine eb_aload_n (pc := 442) (n := 0) (i := 0) rfl rfl rfl ?_
  refine eb_iload_n (pc := 443) (n := 3) (i := 3) rfl rfl rfl ?_
  refine eb_iconst (pc := 444) (n := 1) (v := 1) rfl rfl ?_
  refine eb_iadd (pc := 445) rfl ?_
  obtain ⟨c1, w⟩ := w
  refine eb_sload (pc := 446) rfl c1 ?_
  refine eb_ctV (pc := 447) (As := [.int (eb_X h (x3 + 1).toNatClampNeg)]) (rest := []) rfl (by decide) rfl ka1 (by decide) rfl (Nat.le_of_ble_eq_true rfl) ?_
  refine eb_Ct.mono w ?_
  rintro r h2 ⟨y3, rfl, ko4, w⟩
  change eb_Sn _ _ _ 450 _ [.int y3] _ _
  refine eb_aload_n (pc := 450) (n := 2) (i := 2) rfl rfl rfl ?_
  refine eb_aload_n (pc := 451) (n := 0) (i := 0) rfl rfl rfl ?_
  refine eb_iload_n (pc := 452) (n := 3) (i := 3) rfl rfl rfl ?_
  refine eb_iconst (pc := 453) (n := 1) (v := 1) rfl rfl ?_
  refine eb_iadd (pc := 454) rfl ?_
  obtain ⟨c5, w⟩ := w
  refine eb_sload (pc := 455) rfl c5 ?_
  refine eb_ctV (pc := 456) (As := [.int (eb_X h2 (x3 + 1).toNatClampNeg)]) (rest := [.int y3]) rfl (by decide) rfl ka2 (by decide) rfl (Nat.le_of_ble_eq_true rfl) ?_
  refine eb_Ct.mono w ?_
  rintro r h6 ⟨y7, rfl, ko8, w⟩
  change eb_Sn _ _ _ 459 _ [.int y7, .int y3] _ _
  refine eb_icmp_eq (pc := 459) (tgt := 1672) rfl (by decide) (fun c9 => ?_) (fun c9 => ?_)
  · replace w := w.1 c9
    exact eb_pick [0, 1, 2, 3] rfl w
  · replace w := w.2 c9
    refine eb_iconst (pc := 462) (n := 0) (v := 0) rfl rfl ?_
    exact eb_ireturn (pc := 463) rfl rfl (by decide) w
set_option maxRecDepth 200000 in
theorem b_L_law_464 {d : Nat} {h0 h : eb_H} {Q : Option Value → eb_H → Prop} (a1 : Nat) (a2 : Nat) (x3 : Int32) (ka1 : eb_kd a1 = 10) (ka2 : eb_kd a2 = 11) (ko : eb_KO h) (w : (vp_in (x3 + 1) (eb_XL h)) ∧ eb_Ct d 104 [.ref a1, .int (eb_X h (x3 + 1).toNatClampNeg)] h (fun r h2 => ∃ y3, r = some (.int y3) ∧ eb_KO h2 ∧ (vp_in (x3 + 1) (eb_XL h2)) ∧ eb_Ct d 213 [.ref a2, .int (eb_X h2 (x3 + 1).toNatClampNeg)] h2 (fun r h6 => ∃ y7, r = some (.int y7) ∧ eb_KO h6 ∧ ((y3 = y7 → eb_Sn (d + 1) m_L_law h0 1672 [(0, .ref 20), (1, .ref a1), (2, .ref a2), (3, .int x3)] [] h6 Q) ∧ (¬ (y3 = y7) → Q (some (.int 0)) h6))))) : eb_Sn (d + 1) m_L_law h0 464 [(0, .ref 20), (1, .ref a1), (2, .ref a2), (3, .int x3)] [] h Q := by
  refine eb_aload_n (pc := 464) (n := 1) (i := 1) rfl rfl rfl ?_
  refine eb_aload_n (pc := 465) (n := 0) (i := 0) rfl rfl rfl ?_
  refine eb_iload_n (pc := 466) (n := 3) (i := 3) rfl rfl rfl ?_
  refine eb_iconst (pc := 467) (n := 1) (v := 1) rfl rfl ?_
  refine eb_iadd (pc := 468) rfl ?_
  obtain ⟨c1, w⟩ := w
  refine eb_sload (pc := 469) rfl c1 ?_
  refine eb_ctV (pc := 470) (As := [.int (eb_X h (x3 + 1).toNatClampNeg)]) (rest := []) rfl (by decide) rfl ka1 (by decide) rfl (Nat.le_of_ble_eq_true rfl) ?_
  refine eb_Ct.mono w ?_
  rintro r h2 ⟨y3, rfl, ko4, w⟩
  change eb_Sn _ _ _ 473 _ [.int y3] _ _
  refine eb_aload_n (pc := 473) (n := 2) (i := 2) rfl rfl rfl ?_
  refine eb_aload_n (pc := 474) (n := 0) (i := 0) rfl rfl rfl ?_
  refine eb_iload_n (pc := 475) (n := 3) (i := 3) rfl rfl rfl ?_
  refine eb_iconst (pc := 476) (n := 1) (v := 1) rfl rfl ?_
  refine eb_iadd (pc := 477) rfl ?_
  obtain ⟨c5, w⟩ := w
  refine eb_sload (pc := 478) rfl c5 ?_
  refine eb_ctV (pc := 479) (As := [.int (eb_X h2 (x3 + 1).toNatClampNeg)]) (rest := [.int y3]) rfl (by decide) rfl ka2 (by decide) rfl (Nat.le_of_ble_eq_true rfl) ?_
  refine eb_Ct.mono w ?_
  rintro r h6 ⟨y7, rfl, ko8, w⟩
  change eb_Sn _ _ _ 482 _ [.int y7, .int y3] _ _
  refine eb_icmp_eq (pc := 482) (tgt := 1672) rfl (by decide) (fun c9 => ?_) (fun c9 => ?_)
  · replace w := w.1 c9
    exact eb_pick [0, 1, 2, 3] rfl w
  · replace w := w.2 c9
    refine eb_iconst (pc := 485) (n := 0) (v := 0) rfl rfl ?_
    exact eb_ireturn (pc := 486) rfl rfl (by decide) w
set_option maxRecDepth 200000 in
theorem b_L_law_487 {d : Nat} {h0 h : eb_H} {Q : Option Value → eb_H → Prop} (a1 : Nat) (a2 : Nat) (x3 : Int32) (ka1 : eb_kd a1 = 10) (ka2 : eb_kd a2 = 11) (ko : eb_KO h) (w : (vp_in (x3 + 1) (eb_XL h)) ∧ (vp_in (x3 + 2) (eb_XL h)) ∧ eb_Ct d 105 [.ref a1, .int (eb_X h (x3 + 1).toNatClampNeg), .int (eb_X h (x3 + 2).toNatClampNeg)] h (fun r h3 => ∃ y4, r = some (.int y4) ∧ eb_KO h3 ∧ (vp_in (x3 + 1) (eb_XL h3)) ∧ (vp_in (x3 + 2) (eb_XL h3)) ∧ eb_Ct d 214 [.ref a2, .int (eb_X h3 (x3 + 1).toNatClampNeg), .int (eb_X h3 (x3 + 2).toNatClampNeg)] h3 (fun r h8 => ∃ y9, r = some (.int y9) ∧ eb_KO h8 ∧ ((y4 = y9 → eb_Sn (d + 1) m_L_law h0 1672 [(0, .ref 20), (1, .ref a1), (2, .ref a2), (3, .int x3)] [] h8 Q) ∧ (¬ (y4 = y9) → Q (some (.int 0)) h8))))) : eb_Sn (d + 1) m_L_law h0 487 [(0, .ref 20), (1, .ref a1), (2, .ref a2), (3, .int x3)] [] h Q := by
  refine eb_aload_n (pc := 487) (n := 1) (i := 1) rfl rfl rfl ?_
  refine eb_aload_n (pc := 488) (n := 0) (i := 0) rfl rfl rfl ?_
  refine eb_iload_n (pc := 489) (n := 3) (i := 3) rfl rfl rfl ?_
  refine eb_iconst (pc := 490) (n := 1) (v := 1) rfl rfl ?_
  refine eb_iadd (pc := 491) rfl ?_
  obtain ⟨c1, w⟩ := w
  refine eb_sload (pc := 492) rfl c1 ?_
  refine eb_aload_n (pc := 493) (n := 0) (i := 0) rfl rfl rfl ?_
  refine eb_iload_n (pc := 494) (n := 3) (i := 3) rfl rfl rfl ?_
  refine eb_iconst (pc := 495) (n := 2) (v := 2) rfl rfl ?_
  refine eb_iadd (pc := 496) rfl ?_
  obtain ⟨c2, w⟩ := w
  refine eb_sload (pc := 497) rfl c2 ?_
  refine eb_ctV (pc := 498) (As := [.int (eb_X h (x3 + 1).toNatClampNeg), .int (eb_X h (x3 + 2).toNatClampNeg)]) (rest := []) rfl (by decide) rfl ka1 (by decide) rfl (Nat.le_of_ble_eq_true rfl) ?_
  refine eb_Ct.mono w ?_
  rintro r h3 ⟨y4, rfl, ko5, w⟩
  change eb_Sn _ _ _ 501 _ [.int y4] _ _
  refine eb_aload_n (pc := 501) (n := 2) (i := 2) rfl rfl rfl ?_
  refine eb_aload_n (pc := 502) (n := 0) (i := 0) rfl rfl rfl ?_
  refine eb_iload_n (pc := 503) (n := 3) (i := 3) rfl rfl rfl ?_
  refine eb_iconst (pc := 504) (n := 1) (v := 1) rfl rfl ?_
  refine eb_iadd (pc := 505) rfl ?_
  obtain ⟨c6, w⟩ := w
  refine eb_sload (pc := 506) rfl c6 ?_
  refine eb_aload_n (pc := 507) (n := 0) (i := 0) rfl rfl rfl ?_
  refine eb_iload_n (pc := 508) (n := 3) (i := 3) rfl rfl rfl ?_
  refine eb_iconst (pc := 509) (n := 2) (v := 2) rfl rfl ?_
  refine eb_iadd (pc := 510) rfl ?_
  obtain ⟨c7, w⟩ := w
  refine eb_sload (pc := 511) rfl c7 ?_
  refine eb_ctV (pc := 512) (As := [.int (eb_X h3 (x3 + 1).toNatClampNeg), .int (eb_X h3 (x3 + 2).toNatClampNeg)]) (rest := [.int y4]) rfl (by decide) rfl ka2 (by decide) rfl (Nat.le_of_ble_eq_true rfl) ?_
  refine eb_Ct.mono w ?_
  rintro r h8 ⟨y9, rfl, ko10, w⟩
  change eb_Sn _ _ _ 515 _ [.int y9, .int y4] _ _
  refine eb_icmp_eq (pc := 515) (tgt := 1672) rfl (by decide) (fun c11 => ?_) (fun c11 => ?_)
  · replace w := w.1 c11
    exact eb_pick [0, 1, 2, 3] rfl w
  · replace w := w.2 c11
    refine eb_iconst (pc := 518) (n := 0) (v := 0) rfl rfl ?_
    exact eb_ireturn (pc := 519) rfl rfl (by decide) w
set_option maxRecDepth 200000 in
theorem b_L_law_520 {d : Nat} {h0 h : eb_H} {Q : Option Value → eb_H → Prop} (a1 : Nat) (a2 : Nat) (x3 : Int32) (ka1 : eb_kd a1 = 10) (ka2 : eb_kd a2 = 11) (ko : eb_KO h) (w : (vp_in (x3 + 1) (eb_XL h)) ∧ eb_Ct d 106 [.ref a1, .int (eb_X h (x3 + 1).toNatClampNeg)] h (fun r h2 => ∃ y3, r = some (.int y3) ∧ eb_KO h2 ∧ (vp_in (x3 + 1) (eb_XL h2)) ∧ eb_Ct d 215 [.ref a2, .int (eb_X h2 (x3 + 1).toNatClampNeg)] h2 (fun r h6 => ∃ y7, r = some (.int y7) ∧ eb_KO h6 ∧ ((y3 = y7 → eb_Sn (d + 1) m_L_law h0 1672 [(0, .ref 20), (1, .ref a1), (2, .ref a2), (3, .int x3)] [] h6 Q) ∧ (¬ (y3 = y7) → Q (some (.int 0)) h6))))) : eb_Sn (d + 1) m_L_law h0 520 [(0, .ref 20), (1, .ref a1), (2, .ref a2), (3, .int x3)] [] h Q := by
  refine eb_aload_n (pc := 520) (n := 1) (i := 1) rfl rfl rfl ?_
  refine eb_aload_n (pc := 521) (n := 0) (i := 0) rfl rfl rfl ?_
  refine eb_iload_n (pc := 522) (n := 3) (i := 3) rfl rfl rfl ?_
  refine eb_iconst (pc := 523) (n := 1) (v := 1) rfl rfl ?_
  refine eb_iadd (pc := 524) rfl ?_
  obtain ⟨c1, w⟩ := w
  refine eb_sload (pc := 525) rfl c1 ?_
  refine eb_ctV (pc := 526) (As := [.int (eb_X h (x3 + 1).toNatClampNeg)]) (rest := []) rfl (by decide) rfl ka1 (by decide) rfl (Nat.le_of_ble_eq_true rfl) ?_
  refine eb_Ct.mono w ?_
  rintro r h2 ⟨y3, rfl, ko4, w⟩
  change eb_Sn _ _ _ 529 _ [.int y3] _ _
  refine eb_aload_n (pc := 529) (n := 2) (i := 2) rfl rfl rfl ?_
  refine eb_aload_n (pc := 530) (n := 0) (i := 0) rfl rfl rfl ?_
  refine eb_iload_n (pc := 531) (n := 3) (i := 3) rfl rfl rfl ?_
  refine eb_iconst (pc := 532) (n := 1) (v := 1) rfl rfl ?_
  refine eb_iadd (pc := 533) rfl ?_
  obtain ⟨c5, w⟩ := w
  refine eb_sload (pc := 534) rfl c5 ?_
  refine eb_ctV (pc := 535) (As := [.int (eb_X h2 (x3 + 1).toNatClampNeg)]) (rest := [.int y3]) rfl (by decide) rfl ka2 (by decide) rfl (Nat.le_of_ble_eq_true rfl) ?_
  refine eb_Ct.mono w ?_
  rintro r h6 ⟨y7, rfl, ko8, w⟩
  change eb_Sn _ _ _ 538 _ [.int y7, .int y3] _ _
  refine eb_icmp_eq (pc := 538) (tgt := 1672) rfl (by decide) (fun c9 => ?_) (fun c9 => ?_)
  · replace w := w.1 c9
    exact eb_pick [0, 1, 2, 3] rfl w
  · replace w := w.2 c9
    refine eb_iconst (pc := 541) (n := 0) (v := 0) rfl rfl ?_
    exact eb_ireturn (pc := 542) rfl rfl (by decide) w
set_option maxRecDepth 200000 in
theorem b_L_law_543 {d : Nat} {h0 h : eb_H} {Q : Option Value → eb_H → Prop} (a1 : Nat) (a2 : Nat) (x3 : Int32) (ka1 : eb_kd a1 = 10) (ka2 : eb_kd a2 = 11) (ko : eb_KO h) (w : (vp_in (x3 + 1) (eb_XL h)) ∧ eb_Ct d 107 [.ref a1, .int (eb_X h (x3 + 1).toNatClampNeg)] h (fun r h2 => ∃ y3, r = some (.int y3) ∧ eb_KO h2 ∧ (vp_in (x3 + 1) (eb_XL h2)) ∧ eb_Ct d 216 [.ref a2, .int (eb_X h2 (x3 + 1).toNatClampNeg)] h2 (fun r h6 => ∃ y7, r = some (.int y7) ∧ eb_KO h6 ∧ ((y3 = y7 → eb_Sn (d + 1) m_L_law h0 1672 [(0, .ref 20), (1, .ref a1), (2, .ref a2), (3, .int x3)] [] h6 Q) ∧ (¬ (y3 = y7) → Q (some (.int 0)) h6))))) : eb_Sn (d + 1) m_L_law h0 543 [(0, .ref 20), (1, .ref a1), (2, .ref a2), (3, .int x3)] [] h Q := by
  refine eb_aload_n (pc := 543) (n := 1) (i := 1) rfl rfl rfl ?_
  refine eb_aload_n (pc := 544) (n := 0) (i := 0) rfl rfl rfl ?_
  refine eb_iload_n (pc := 545) (n := 3) (i := 3) rfl rfl rfl ?_
  refine eb_iconst (pc := 546) (n := 1) (v := 1) rfl rfl ?_
  refine eb_iadd (pc := 547) rfl ?_
  obtain ⟨c1, w⟩ := w
  refine eb_sload (pc := 548) rfl c1 ?_
  refine eb_ctV (pc := 549) (As := [.int (eb_X h (x3 + 1).toNatClampNeg)]) (rest := []) rfl (by decide) rfl ka1 (by decide) rfl (Nat.le_of_ble_eq_true rfl) ?_
  refine eb_Ct.mono w ?_
  rintro r h2 ⟨y3, rfl, ko4, w⟩
  change eb_Sn _ _ _ 552 _ [.int y3] _ _
  refine eb_aload_n (pc := 552) (n := 2) (i := 2) rfl rfl rfl ?_
  refine eb_aload_n (pc := 553) (n := 0) (i := 0) rfl rfl rfl ?_
  refine eb_iload_n (pc := 554) (n := 3) (i := 3) rfl rfl rfl ?_
  refine eb_iconst (pc := 555) (n := 1) (v := 1) rfl rfl ?_
  refine eb_iadd (pc := 556) rfl ?_
  obtain ⟨c5, w⟩ := w
  refine eb_sload (pc := 557) rfl c5 ?_
  refine eb_ctV (pc := 558) (As := [.int (eb_X h2 (x3 + 1).toNatClampNeg)]) (rest := [.int y3]) rfl (by decide) rfl ka2 (by decide) rfl (Nat.le_of_ble_eq_true rfl) ?_
  refine eb_Ct.mono w ?_
  rintro r h6 ⟨y7, rfl, ko8, w⟩
  change eb_Sn _ _ _ 561 _ [.int y7, .int y3] _ _
  refine eb_icmp_eq (pc := 561) (tgt := 1672) rfl (by decide) (fun c9 => ?_) (fun c9 => ?_)
  · replace w := w.1 c9
    exact eb_pick [0, 1, 2, 3] rfl w
  · replace w := w.2 c9
    refine eb_iconst (pc := 564) (n := 0) (v := 0) rfl rfl ?_
    exact eb_ireturn (pc := 565) rfl rfl (by decide) w
set_option maxRecDepth 200000 in
theorem b_L_law_566 {d : Nat} {h0 h : eb_H} {Q : Option Value → eb_H → Prop} (a1 : Nat) (a2 : Nat) (x3 : Int32) (ka1 : eb_kd a1 = 10) (ka2 : eb_kd a2 = 11) (ko : eb_KO h) (w : (vp_in (x3 + 1) (eb_XL h)) ∧ eb_Ct d 108 [.ref a1, .int (eb_X h (x3 + 1).toNatClampNeg)] h (fun r h2 => ∃ y3, r = some (.int y3) ∧ eb_KO h2 ∧ (vp_in (x3 + 1) (eb_XL h2)) ∧ eb_Ct d 217 [.ref a2, .int (eb_X h2 (x3 + 1).toNatClampNeg)] h2 (fun r h6 => ∃ y7, r = some (.int y7) ∧ eb_KO h6 ∧ ((y3 = y7 → eb_Sn (d + 1) m_L_law h0 1672 [(0, .ref 20), (1, .ref a1), (2, .ref a2), (3, .int x3)] [] h6 Q) ∧ (¬ (y3 = y7) → Q (some (.int 0)) h6))))) : eb_Sn (d + 1) m_L_law h0 566 [(0, .ref 20), (1, .ref a1), (2, .ref a2), (3, .int x3)] [] h Q := by
  refine eb_aload_n (pc := 566) (n := 1) (i := 1) rfl rfl rfl ?_
  refine eb_aload_n (pc := 567) (n := 0) (i := 0) rfl rfl rfl ?_
  refine eb_iload_n (pc := 568) (n := 3) (i := 3) rfl rfl rfl ?_
  refine eb_iconst (pc := 569) (n := 1) (v := 1) rfl rfl ?_
  refine eb_iadd (pc := 570) rfl ?_
  obtain ⟨c1, w⟩ := w
  refine eb_sload (pc := 571) rfl c1 ?_
  refine eb_ctV (pc := 572) (As := [.int (eb_X h (x3 + 1).toNatClampNeg)]) (rest := []) rfl (by decide) rfl ka1 (by decide) rfl (Nat.le_of_ble_eq_true rfl) ?_
  refine eb_Ct.mono w ?_
  rintro r h2 ⟨y3, rfl, ko4, w⟩
  change eb_Sn _ _ _ 575 _ [.int y3] _ _
  refine eb_aload_n (pc := 575) (n := 2) (i := 2) rfl rfl rfl ?_
  refine eb_aload_n (pc := 576) (n := 0) (i := 0) rfl rfl rfl ?_
  refine eb_iload_n (pc := 577) (n := 3) (i := 3) rfl rfl rfl ?_
  refine eb_iconst (pc := 578) (n := 1) (v := 1) rfl rfl ?_
  refine eb_iadd (pc := 579) rfl ?_
  obtain ⟨c5, w⟩ := w
  refine eb_sload (pc := 580) rfl c5 ?_
  refine eb_ctV (pc := 581) (As := [.int (eb_X h2 (x3 + 1).toNatClampNeg)]) (rest := [.int y3]) rfl (by decide) rfl ka2 (by decide) rfl (Nat.le_of_ble_eq_true rfl) ?_
  refine eb_Ct.mono w ?_
  rintro r h6 ⟨y7, rfl, ko8, w⟩
  change eb_Sn _ _ _ 584 _ [.int y7, .int y3] _ _
  refine eb_icmp_eq (pc := 584) (tgt := 1672) rfl (by decide) (fun c9 => ?_) (fun c9 => ?_)
  · replace w := w.1 c9
    exact eb_pick [0, 1, 2, 3] rfl w
  · replace w := w.2 c9
    refine eb_iconst (pc := 587) (n := 0) (v := 0) rfl rfl ?_
    exact eb_ireturn (pc := 588) rfl rfl (by decide) w
set_option maxRecDepth 200000 in
theorem b_L_law_589 {d : Nat} {h0 h : eb_H} {Q : Option Value → eb_H → Prop} (a1 : Nat) (a2 : Nat) (x3 : Int32) (ka1 : eb_kd a1 = 10) (ka2 : eb_kd a2 = 11) (ko : eb_KO h) (w : (vp_in (x3 + 1) (eb_XL h)) ∧ (vp_in (x3 + 2) (eb_XL h)) ∧ eb_Ct d 109 [.ref a1, .int (eb_X h (x3 + 1).toNatClampNeg), .int (eb_X h (x3 + 2).toNatClampNeg)] h (fun r h3 => ∃ y4, r = some (.int y4) ∧ eb_KO h3 ∧ (vp_in (x3 + 1) (eb_XL h3)) ∧ (vp_in (x3 + 2) (eb_XL h3)) ∧ eb_Ct d 222 [.ref a2, .int (eb_X h3 (x3 + 1).toNatClampNeg), .int (eb_X h3 (x3 + 2).toNatClampNeg)] h3 (fun r h8 => ∃ y9, r = some (.int y9) ∧ eb_KO h8 ∧ ((y4 = y9 → eb_Sn (d + 1) m_L_law h0 1672 [(0, .ref 20), (1, .ref a1), (2, .ref a2), (3, .int x3)] [] h8 Q) ∧ (¬ (y4 = y9) → Q (some (.int 0)) h8))))) : eb_Sn (d + 1) m_L_law h0 589 [(0, .ref 20), (1, .ref a1), (2, .ref a2), (3, .int x3)] [] h Q := by
  refine eb_aload_n (pc := 589) (n := 1) (i := 1) rfl rfl rfl ?_
  refine eb_aload_n (pc := 590) (n := 0) (i := 0) rfl rfl rfl ?_
  refine eb_iload_n (pc := 591) (n := 3) (i := 3) rfl rfl rfl ?_
  refine eb_iconst (pc := 592) (n := 1) (v := 1) rfl rfl ?_
  refine eb_iadd (pc := 593) rfl ?_
  obtain ⟨c1, w⟩ := w
  refine eb_sload (pc := 594) rfl c1 ?_
  refine eb_aload_n (pc := 595) (n := 0) (i := 0) rfl rfl rfl ?_
  refine eb_iload_n (pc := 596) (n := 3) (i := 3) rfl rfl rfl ?_
  refine eb_iconst (pc := 597) (n := 2) (v := 2) rfl rfl ?_
  refine eb_iadd (pc := 598) rfl ?_
  obtain ⟨c2, w⟩ := w
  refine eb_sload (pc := 599) rfl c2 ?_
  refine eb_ctV (pc := 600) (As := [.int (eb_X h (x3 + 1).toNatClampNeg), .int (eb_X h (x3 + 2).toNatClampNeg)]) (rest := []) rfl (by decide) rfl ka1 (by decide) rfl (Nat.le_of_ble_eq_true rfl) ?_
  refine eb_Ct.mono w ?_
  rintro r h3 ⟨y4, rfl, ko5, w⟩
  change eb_Sn _ _ _ 603 _ [.int y4] _ _
  refine eb_aload_n (pc := 603) (n := 2) (i := 2) rfl rfl rfl ?_
  refine eb_aload_n (pc := 604) (n := 0) (i := 0) rfl rfl rfl ?_
  refine eb_iload_n (pc := 605) (n := 3) (i := 3) rfl rfl rfl ?_
  refine eb_iconst (pc := 606) (n := 1) (v := 1) rfl rfl ?_
  refine eb_iadd (pc := 607) rfl ?_
  obtain ⟨c6, w⟩ := w
  refine eb_sload (pc := 608) rfl c6 ?_
  refine eb_aload_n (pc := 609) (n := 0) (i := 0) rfl rfl rfl ?_
  refine eb_iload_n (pc := 610) (n := 3) (i := 3) rfl rfl rfl ?_
  refine eb_iconst (pc := 611) (n := 2) (v := 2) rfl rfl ?_
  refine eb_iadd (pc := 612) rfl ?_
  obtain ⟨c7, w⟩ := w
  refine eb_sload (pc := 613) rfl c7 ?_
  refine eb_ctV (pc := 614) (As := [.int (eb_X h3 (x3 + 1).toNatClampNeg), .int (eb_X h3 (x3 + 2).toNatClampNeg)]) (rest := [.int y4]) rfl (by decide) rfl ka2 (by decide) rfl (Nat.le_of_ble_eq_true rfl) ?_
  refine eb_Ct.mono w ?_
  rintro r h8 ⟨y9, rfl, ko10, w⟩
  change eb_Sn _ _ _ 617 _ [.int y9, .int y4] _ _
  refine eb_icmp_eq (pc := 617) (tgt := 1672) rfl (by decide) (fun c11 => ?_) (fun c11 => ?_)
  · replace w := w.1 c11
    exact eb_pick [0, 1, 2, 3] rfl w
  · replace w := w.2 c11
    refine eb_iconst (pc := 620) (n := 0) (v := 0) rfl rfl ?_
    exact eb_ireturn (pc := 621) rfl rfl (by decide) w
set_option maxRecDepth 200000 in
theorem b_L_law_622 {d : Nat} {h0 h : eb_H} {Q : Option Value → eb_H → Prop} (a1 : Nat) (a2 : Nat) (x3 : Int32) (ka1 : eb_kd a1 = 10) (ka2 : eb_kd a2 = 11) (ko : eb_KO h) (w : (vp_in (x3 + 1) (eb_XL h)) ∧ eb_Ct d 110 [.ref a1, .int (eb_X h (x3 + 1).toNatClampNeg)] h (fun r h2 => ∃ y3, r = some (.int y3) ∧ eb_KO h2 ∧ (vp_in (x3 + 1) (eb_XL h2)) ∧ eb_Ct d 223 [.ref a2, .int (eb_X h2 (x3 + 1).toNatClampNeg)] h2 (fun r h6 => ∃ y7, r = some (.int y7) ∧ eb_KO h6 ∧ ((y3 = y7 → eb_Sn (d + 1) m_L_law h0 1672 [(0, .ref 20), (1, .ref a1), (2, .ref a2), (3, .int x3)] [] h6 Q) ∧ (¬ (y3 = y7) → Q (some (.int 0)) h6))))) : eb_Sn (d + 1) m_L_law h0 622 [(0, .ref 20), (1, .ref a1), (2, .ref a2), (3, .int x3)] [] h Q := by
  refine eb_aload_n (pc := 622) (n := 1) (i := 1) rfl rfl rfl ?_
  refine eb_aload_n (pc := 623) (n := 0) (i := 0) rfl rfl rfl ?_
  refine eb_iload_n (pc := 624) (n := 3) (i := 3) rfl rfl rfl ?_
  refine eb_iconst (pc := 625) (n := 1) (v := 1) rfl rfl ?_
  refine eb_iadd (pc := 626) rfl ?_
  obtain ⟨c1, w⟩ := w
  refine eb_sload (pc := 627) rfl c1 ?_
  refine eb_ctV (pc := 628) (As := [.int (eb_X h (x3 + 1).toNatClampNeg)]) (rest := []) rfl (by decide) rfl ka1 (by decide) rfl (Nat.le_of_ble_eq_true rfl) ?_
  refine eb_Ct.mono w ?_
  rintro r h2 ⟨y3, rfl, ko4, w⟩
  change eb_Sn _ _ _ 631 _ [.int y3] _ _
  refine eb_aload_n (pc := 631) (n := 2) (i := 2) rfl rfl rfl ?_
  refine eb_aload_n (pc := 632) (n := 0) (i := 0) rfl rfl rfl ?_
  refine eb_iload_n (pc := 633) (n := 3) (i := 3) rfl rfl rfl ?_
  refine eb_iconst (pc := 634) (n := 1) (v := 1) rfl rfl ?_
  refine eb_iadd (pc := 635) rfl ?_
  obtain ⟨c5, w⟩ := w
  refine eb_sload (pc := 636) rfl c5 ?_
  refine eb_ctV (pc := 637) (As := [.int (eb_X h2 (x3 + 1).toNatClampNeg)]) (rest := [.int y3]) rfl (by decide) rfl ka2 (by decide) rfl (Nat.le_of_ble_eq_true rfl) ?_
  refine eb_Ct.mono w ?_
  rintro r h6 ⟨y7, rfl, ko8, w⟩
  change eb_Sn _ _ _ 640 _ [.int y7, .int y3] _ _
  refine eb_icmp_eq (pc := 640) (tgt := 1672) rfl (by decide) (fun c9 => ?_) (fun c9 => ?_)
  · replace w := w.1 c9
    exact eb_pick [0, 1, 2, 3] rfl w
  · replace w := w.2 c9
    refine eb_iconst (pc := 643) (n := 0) (v := 0) rfl rfl ?_
    exact eb_ireturn (pc := 644) rfl rfl (by decide) w
set_option maxRecDepth 200000 in
theorem b_L_law_645 {d : Nat} {h0 h : eb_H} {Q : Option Value → eb_H → Prop} (a1 : Nat) (a2 : Nat) (x3 : Int32) (ka1 : eb_kd a1 = 10) (ka2 : eb_kd a2 = 11) (ko : eb_KO h) (w : (vp_in (x3 + 1) (eb_XL h)) ∧ (vp_in (x3 + 2) (eb_XL h)) ∧ eb_Ct d 111 [.ref a1, .int (eb_X h (x3 + 1).toNatClampNeg), .int (eb_X h (x3 + 2).toNatClampNeg)] h (fun r h3 => ∃ y4, r = some (.int y4) ∧ eb_KO h3 ∧ (vp_in (x3 + 1) (eb_XL h3)) ∧ (vp_in (x3 + 2) (eb_XL h3)) ∧ eb_Ct d 226 [.ref a2, .int (eb_X h3 (x3 + 1).toNatClampNeg), .int (eb_X h3 (x3 + 2).toNatClampNeg)] h3 (fun r h8 => ∃ y9, r = some (.int y9) ∧ eb_KO h8 ∧ ((y4 = y9 → eb_Sn (d + 1) m_L_law h0 1672 [(0, .ref 20), (1, .ref a1), (2, .ref a2), (3, .int x3)] [] h8 Q) ∧ (¬ (y4 = y9) → Q (some (.int 0)) h8))))) : eb_Sn (d + 1) m_L_law h0 645 [(0, .ref 20), (1, .ref a1), (2, .ref a2), (3, .int x3)] [] h Q := by
  refine eb_aload_n (pc := 645) (n := 1) (i := 1) rfl rfl rfl ?_
  refine eb_aload_n (pc := 646) (n := 0) (i := 0) rfl rfl rfl ?_
  refine eb_iload_n (pc := 647) (n := 3) (i := 3) rfl rfl rfl ?_
  refine eb_iconst (pc := 648) (n := 1) (v := 1) rfl rfl ?_
  refine eb_iadd (pc := 649) rfl ?_
  obtain ⟨c1, w⟩ := w
  refine eb_sload (pc := 650) rfl c1 ?_
  refine eb_aload_n (pc := 651) (n := 0) (i := 0) rfl rfl rfl ?_
  refine eb_iload_n (pc := 652) (n := 3) (i := 3) rfl rfl rfl ?_
  refine eb_iconst (pc := 653) (n := 2) (v := 2) rfl rfl ?_
  refine eb_iadd (pc := 654) rfl ?_
  obtain ⟨c2, w⟩ := w
  refine eb_sload (pc := 655) rfl c2 ?_
  refine eb_ctV (pc := 656) (As := [.int (eb_X h (x3 + 1).toNatClampNeg), .int (eb_X h (x3 + 2).toNatClampNeg)]) (rest := []) rfl (by decide) rfl ka1 (by decide) rfl (Nat.le_of_ble_eq_true rfl) ?_
  refine eb_Ct.mono w ?_
  rintro r h3 ⟨y4, rfl, ko5, w⟩
  change eb_Sn _ _ _ 659 _ [.int y4] _ _
  refine eb_aload_n (pc := 659) (n := 2) (i := 2) rfl rfl rfl ?_
  refine eb_aload_n (pc := 660) (n := 0) (i := 0) rfl rfl rfl ?_
  refine eb_iload_n (pc := 661) (n := 3) (i := 3) rfl rfl rfl ?_
  refine eb_iconst (pc := 662) (n := 1) (v := 1) rfl rfl ?_
  refine eb_iadd (pc := 663) rfl ?_
  obtain ⟨c6, w⟩ := w
  refine eb_sload (pc := 664) rfl c6 ?_
  refine eb_aload_n (pc := 665) (n := 0) (i := 0) rfl rfl rfl ?_
  refine eb_iload_n (pc := 666) (n := 3) (i := 3) rfl rfl rfl ?_
  refine eb_iconst (pc := 667) (n := 2) (v := 2) rfl rfl ?_
  refine eb_iadd (pc := 668) rfl ?_
  obtain ⟨c7, w⟩ := w
  refine eb_sload (pc := 669) rfl c7 ?_
  refine eb_ctV (pc := 670) (As := [.int (eb_X h3 (x3 + 1).toNatClampNeg), .int (eb_X h3 (x3 + 2).toNatClampNeg)]) (rest := [.int y4]) rfl (by decide) rfl ka2 (by decide) rfl (Nat.le_of_ble_eq_true rfl) ?_
  refine eb_Ct.mono w ?_
  rintro r h8 ⟨y9, rfl, ko10, w⟩
  change eb_Sn _ _ _ 673 _ [.int y9, .int y4] _ _
  refine eb_icmp_eq (pc := 673) (tgt := 1672) rfl (by decide) (fun c11 => ?_) (fun c11 => ?_)
  · replace w := w.1 c11
    exact eb_pick [0, 1, 2, 3] rfl w
  · replace w := w.2 c11
    refine eb_iconst (pc := 676) (n := 0) (v := 0) rfl rfl ?_
    exact eb_ireturn (pc := 677) rfl rfl (by decide) w
set_option maxRecDepth 200000 in
theorem b_L_law_678 {d : Nat} {h0 h : eb_H} {Q : Option Value → eb_H → Prop} (a1 : Nat) (a2 : Nat) (x3 : Int32) (ka1 : eb_kd a1 = 10) (ka2 : eb_kd a2 = 11) (ko : eb_KO h) (w : (vp_in (x3 + 1) (eb_XL h)) ∧ (vp_in (x3 + 2) (eb_XL h)) ∧ (vp_in (x3 + 3) (eb_XL h)) ∧ eb_Ct d 112 [.ref a1, .int (eb_X h (x3 + 1).toNatClampNeg), .int (eb_X h (x3 + 2).toNatClampNeg), .int (eb_X h (x3 + 3).toNatClampNeg)] h (fun r h4 => ∃ y5, r = some (.int y5) ∧ eb_KO h4 ∧ (vp_in (x3 + 1) (eb_XL h4)) ∧ (vp_in (x3 + 2) (eb_XL h4)) ∧ (vp_in (x3 + 3) (eb_XL h4)) ∧ eb_Ct d 235 [.ref a2, .int (eb_X h4 (x3 + 1).toNatClampNeg), .int (eb_X h4 (x3 + 2).toNatClampNeg), .int (eb_X h4 (x3 + 3).toNatClampNeg)] h4 (fun r h10 => ∃ y11, r = some (.int y11) ∧ eb_KO h10 ∧ ((y5 = y11 → eb_Sn (d + 1) m_L_law h0 1672 [(0, .ref 20), (1, .ref a1), (2, .ref a2), (3, .int x3)] [] h10 Q) ∧ (¬ (y5 = y11) → Q (some (.int 0)) h10))))) : eb_Sn (d + 1) m_L_law h0 678 [(0, .ref 20), (1, .ref a1), (2, .ref a2), (3, .int x3)] [] h Q := by
  refine eb_aload_n (pc := 678) (n := 1) (i := 1) rfl rfl rfl ?_
  refine eb_aload_n (pc := 679) (n := 0) (i := 0) rfl rfl rfl ?_
  refine eb_iload_n (pc := 680) (n := 3) (i := 3) rfl rfl rfl ?_
  refine eb_iconst (pc := 681) (n := 1) (v := 1) rfl rfl ?_
  refine eb_iadd (pc := 682) rfl ?_
  obtain ⟨c1, w⟩ := w
  refine eb_sload (pc := 683) rfl c1 ?_
  refine eb_aload_n (pc := 684) (n := 0) (i := 0) rfl rfl rfl ?_
  refine eb_iload_n (pc := 685) (n := 3) (i := 3) rfl rfl rfl ?_
  refine eb_iconst (pc := 686) (n := 2) (v := 2) rfl rfl ?_
  refine eb_iadd (pc := 687) rfl ?_
  obtain ⟨c2, w⟩ := w
  refine eb_sload (pc := 688) rfl c2 ?_
  refine eb_aload_n (pc := 689) (n := 0) (i := 0) rfl rfl rfl ?_
  refine eb_iload_n (pc := 690) (n := 3) (i := 3) rfl rfl rfl ?_
  refine eb_iconst (pc := 691) (n := 3) (v := 3) rfl rfl ?_
  refine eb_iadd (pc := 692) rfl ?_
  obtain ⟨c3, w⟩ := w
  refine eb_sload (pc := 693) rfl c3 ?_
  refine eb_ctV (pc := 694) (As := [.int (eb_X h (x3 + 1).toNatClampNeg), .int (eb_X h (x3 + 2).toNatClampNeg), .int (eb_X h (x3 + 3).toNatClampNeg)]) (rest := []) rfl (by decide) rfl ka1 (by decide) rfl (Nat.le_of_ble_eq_true rfl) ?_
  refine eb_Ct.mono w ?_
  rintro r h4 ⟨y5, rfl, ko6, w⟩
  change eb_Sn _ _ _ 697 _ [.int y5] _ _
  refine eb_aload_n (pc := 697) (n := 2) (i := 2) rfl rfl rfl ?_
  refine eb_aload_n (pc := 698) (n := 0) (i := 0) rfl rfl rfl ?_
  refine eb_iload_n (pc := 699) (n := 3) (i := 3) rfl rfl rfl ?_
  refine eb_iconst (pc := 700) (n := 1) (v := 1) rfl rfl ?_
  refine eb_iadd (pc := 701) rfl ?_
  obtain ⟨c7, w⟩ := w
  refine eb_sload (pc := 702) rfl c7 ?_
  refine eb_aload_n (pc := 703) (n := 0) (i := 0) rfl rfl rfl ?_
  refine eb_iload_n (pc := 704) (n := 3) (i := 3) rfl rfl rfl ?_
  refine eb_iconst (pc := 705) (n := 2) (v := 2) rfl rfl ?_
  refine eb_iadd (pc := 706) rfl ?_
  obtain ⟨c8, w⟩ := w
  refine eb_sload (pc := 707) rfl c8 ?_
  refine eb_aload_n (pc := 708) (n := 0) (i := 0) rfl rfl rfl ?_
  refine eb_iload_n (pc := 709) (n := 3) (i := 3) rfl rfl rfl ?_
  refine eb_iconst (pc := 710) (n := 3) (v := 3) rfl rfl ?_
  refine eb_iadd (pc := 711) rfl ?_
  obtain ⟨c9, w⟩ := w
  refine eb_sload (pc := 712) rfl c9 ?_
  refine eb_ctV (pc := 713) (As := [.int (eb_X h4 (x3 + 1).toNatClampNeg), .int (eb_X h4 (x3 + 2).toNatClampNeg), .int (eb_X h4 (x3 + 3).toNatClampNeg)]) (rest := [.int y5]) rfl (by decide) rfl ka2 (by decide) rfl (Nat.le_of_ble_eq_true rfl) ?_
  refine eb_Ct.mono w ?_
  rintro r h10 ⟨y11, rfl, ko12, w⟩
  change eb_Sn _ _ _ 716 _ [.int y11, .int y5] _ _
  refine eb_icmp_eq (pc := 716) (tgt := 1672) rfl (by decide) (fun c13 => ?_) (fun c13 => ?_)
  · replace w := w.1 c13
    exact eb_pick [0, 1, 2, 3] rfl w
  · replace w := w.2 c13
    refine eb_iconst (pc := 719) (n := 0) (v := 0) rfl rfl ?_
    exact eb_ireturn (pc := 720) rfl rfl (by decide) w
set_option maxRecDepth 200000 in
theorem b_L_law_721 {d : Nat} {h0 h : eb_H} {Q : Option Value → eb_H → Prop} (a1 : Nat) (a2 : Nat) (x3 : Int32) (ka1 : eb_kd a1 = 10) (ka2 : eb_kd a2 = 11) (ko : eb_KO h) (w : (vp_in (x3 + 1) (eb_XL h)) ∧ (vp_in (x3 + 2) (eb_XL h)) ∧ (vp_in (x3 + 3) (eb_XL h)) ∧ (vp_in (x3 + 4) (eb_XL h)) ∧ eb_Ct d 113 [.ref a1, .int (eb_X h (x3 + 1).toNatClampNeg), .int (eb_X h (x3 + 2).toNatClampNeg), .int (eb_X h (x3 + 3).toNatClampNeg), .int (eb_X h (x3 + 4).toNatClampNeg)] h (fun r h5 => ∃ y6, r = some (.int y6) ∧ eb_KO h5 ∧ (vp_in (x3 + 1) (eb_XL h5)) ∧ (vp_in (x3 + 2) (eb_XL h5)) ∧ (vp_in (x3 + 3) (eb_XL h5)) ∧ (vp_in (x3 + 4) (eb_XL h5)) ∧ eb_Ct d 236 [.ref a2, .int (eb_X h5 (x3 + 1).toNatClampNeg), .int (eb_X h5 (x3 + 2).toNatClampNeg), .int (eb_X h5 (x3 + 3).toNatClampNeg), .int (eb_X h5 (x3 + 4).toNatClampNeg)] h5 (fun r h12 => ∃ y13, r = some (.int y13) ∧ eb_KO h12 ∧ ((y6 = y13 → eb_Sn (d + 1) m_L_law h0 1672 [(0, .ref 20), (1, .ref a1), (2, .ref a2), (3, .int x3)] [] h12 Q) ∧ (¬ (y6 = y13) → Q (some (.int 0)) h12))))) : eb_Sn (d + 1) m_L_law h0 721 [(0, .ref 20), (1, .ref a1), (2, .ref a2), (3, .int x3)] [] h Q := by
  refine eb_aload_n (pc := 721) (n := 1) (i := 1) rfl rfl rfl ?_
  refine eb_aload_n (pc := 722) (n := 0) (i := 0) rfl rfl rfl ?_
  refine eb_iload_n (pc := 723) (n := 3) (i := 3) rfl rfl rfl ?_
  refine eb_iconst (pc := 724) (n := 1) (v := 1) rfl rfl ?_
  refine eb_iadd (pc := 725) rfl ?_
  obtain ⟨c1, w⟩ := w
  refine eb_sload (pc := 726) rfl c1 ?_
  refine eb_aload_n (pc := 727) (n := 0) (i := 0) rfl rfl rfl ?_
  refine eb_iload_n (pc := 728) (n := 3) (i := 3) rfl rfl rfl ?_
  refine eb_iconst (pc := 729) (n := 2) (v := 2) rfl rfl ?_
  refine eb_iadd (pc := 730) rfl ?_
  obtain ⟨c2, w⟩ := w
  refine eb_sload (pc := 731) rfl c2 ?_
  refine eb_aload_n (pc := 732) (n := 0) (i := 0) rfl rfl rfl ?_
  refine eb_iload_n (pc := 733) (n := 3) (i := 3) rfl rfl rfl ?_
  refine eb_iconst (pc := 734) (n := 3) (v := 3) rfl rfl ?_
  refine eb_iadd (pc := 735) rfl ?_
  obtain ⟨c3, w⟩ := w
  refine eb_sload (pc := 736) rfl c3 ?_
  refine eb_aload_n (pc := 737) (n := 0) (i := 0) rfl rfl rfl ?_
  refine eb_iload_n (pc := 738) (n := 3) (i := 3) rfl rfl rfl ?_
  refine eb_iconst (pc := 739) (n := 4) (v := 4) rfl rfl ?_
  refine eb_iadd (pc := 740) rfl ?_
  obtain ⟨c4, w⟩ := w
  refine eb_sload (pc := 741) rfl c4 ?_
  refine eb_ctV (pc := 742) (As := [.int (eb_X h (x3 + 1).toNatClampNeg), .int (eb_X h (x3 + 2).toNatClampNeg), .int (eb_X h (x3 + 3).toNatClampNeg), .int (eb_X h (x3 + 4).toNatClampNeg)]) (rest := []) rfl (by decide) rfl ka1 (by decide) rfl (Nat.le_of_ble_eq_true rfl) ?_
  refine eb_Ct.mono w ?_
  rintro r h5 ⟨y6, rfl, ko7, w⟩
  change eb_Sn _ _ _ 745 _ [.int y6] _ _
  refine eb_aload_n (pc := 745) (n := 2) (i := 2) rfl rfl rfl ?_
  refine eb_aload_n (pc := 746) (n := 0) (i := 0) rfl rfl rfl ?_
  refine eb_iload_n (pc := 747) (n := 3) (i := 3) rfl rfl rfl ?_
  refine eb_iconst (pc := 748) (n := 1) (v := 1) rfl rfl ?_
  refine eb_iadd (pc := 749) rfl ?_
  obtain ⟨c8, w⟩ := w
  refine eb_sload (pc := 750) rfl c8 ?_
  refine eb_aload_n (pc := 751) (n := 0) (i := 0) rfl rfl rfl ?_
  refine eb_iload_n (pc := 752) (n := 3) (i := 3) rfl rfl rfl ?_
  refine eb_iconst (pc := 753) (n := 2) (v := 2) rfl rfl ?_
  refine eb_iadd (pc := 754) rfl ?_
  obtain ⟨c9, w⟩ := w
  refine eb_sload (pc := 755) rfl c9 ?_
  refine eb_aload_n (pc := 756) (n := 0) (i := 0) rfl rfl rfl ?_
  refine eb_iload_n (pc := 757) (n := 3) (i := 3) rfl rfl rfl ?_
  refine eb_iconst (pc := 758) (n := 3) (v := 3) rfl rfl ?_
  refine eb_iadd (pc := 759) rfl ?_
  obtain ⟨c10, w⟩ := w
  refine eb_sload (pc := 760) rfl c10 ?_
  refine eb_aload_n (pc := 761) (n := 0) (i := 0) rfl rfl rfl ?_
  refine eb_iload_n (pc := 762) (n := 3) (i := 3) rfl rfl rfl ?_
  refine eb_iconst (pc := 763) (n := 4) (v := 4) rfl rfl ?_
  refine eb_iadd (pc := 764) rfl ?_
  obtain ⟨c11, w⟩ := w
  refine eb_sload (pc := 765) rfl c11 ?_
  refine eb_ctV (pc := 766) (As := [.int (eb_X h5 (x3 + 1).toNatClampNeg), .int (eb_X h5 (x3 + 2).toNatClampNeg), .int (eb_X h5 (x3 + 3).toNatClampNeg), .int (eb_X h5 (x3 + 4).toNatClampNeg)]) (rest := [.int y6]) rfl (by decide) rfl ka2 (by decide) rfl (Nat.le_of_ble_eq_true rfl) ?_
  refine eb_Ct.mono w ?_
  rintro r h12 ⟨y13, rfl, ko14, w⟩
  change eb_Sn _ _ _ 769 _ [.int y13, .int y6] _ _
  refine eb_icmp_eq (pc := 769) (tgt := 1672) rfl (by decide) (fun c15 => ?_) (fun c15 => ?_)
  · replace w := w.1 c15
    exact eb_pick [0, 1, 2, 3] rfl w
  · replace w := w.2 c15
    refine eb_iconst (pc := 772) (n := 0) (v := 0) rfl rfl ?_
    exact eb_ireturn (pc := 773) rfl rfl (by decide) w
set_option maxRecDepth 200000 in
theorem b_L_law_774 {d : Nat} {h0 h : eb_H} {Q : Option Value → eb_H → Prop} (a1 : Nat) (a2 : Nat) (x3 : Int32) (ka1 : eb_kd a1 = 10) (ka2 : eb_kd a2 = 11) (ko : eb_KO h) (w : (vp_in (x3 + 1) (eb_XL h)) ∧ (vp_in (x3 + 2) (eb_XL h)) ∧ (vp_in (x3 + 3) (eb_XL h)) ∧ (vp_in (x3 + 4) (eb_XL h)) ∧ eb_Ct d 114 [.ref a1, .int (eb_X h (x3 + 1).toNatClampNeg), .int (eb_X h (x3 + 2).toNatClampNeg), .int (eb_X h (x3 + 3).toNatClampNeg), .int (eb_X h (x3 + 4).toNatClampNeg)] h (fun r h5 => ∃ y6, r = some (.long y6) ∧ eb_KO h5 ∧ (vp_in (x3 + 1) (eb_XL h5)) ∧ (vp_in (x3 + 2) (eb_XL h5)) ∧ (vp_in (x3 + 3) (eb_XL h5)) ∧ (vp_in (x3 + 4) (eb_XL h5)) ∧ eb_Ct d 239 [.ref a2, .int (eb_X h5 (x3 + 1).toNatClampNeg), .int (eb_X h5 (x3 + 2).toNatClampNeg), .int (eb_X h5 (x3 + 3).toNatClampNeg), .int (eb_X h5 (x3 + 4).toNatClampNeg)] h5 (fun r h12 => ∃ y13, r = some (.long y13) ∧ eb_KO h12 ∧ ((y6 = y13 → eb_Sn (d + 1) m_L_law h0 1672 [(0, .ref 20), (1, .ref a1), (2, .ref a2), (3, .int x3)] [] h12 Q) ∧ (¬ (y6 = y13) → Q (some (.int 0)) h12))))) : eb_Sn (d + 1) m_L_law h0 774 [(0, .ref 20), (1, .ref a1), (2, .ref a2), (3, .int x3)] [] h Q := by
  refine eb_aload_n (pc := 774) (n := 1) (i := 1) rfl rfl rfl ?_
  refine eb_aload_n (pc := 775) (n := 0) (i := 0) rfl rfl rfl ?_
  refine eb_iload_n (pc := 776) (n := 3) (i := 3) rfl rfl rfl ?_
  refine eb_iconst (pc := 777) (n := 1) (v := 1) rfl rfl ?_
  refine eb_iadd (pc := 778) rfl ?_
  obtain ⟨c1, w⟩ := w
  refine eb_sload (pc := 779) rfl c1 ?_
  refine eb_aload_n (pc := 780) (n := 0) (i := 0) rfl rfl rfl ?_
  refine eb_iload_n (pc := 781) (n := 3) (i := 3) rfl rfl rfl ?_
  refine eb_iconst (pc := 782) (n := 2) (v := 2) rfl rfl ?_
  refine eb_iadd (pc := 783) rfl ?_
  obtain ⟨c2, w⟩ := w
  refine eb_sload (pc := 784) rfl c2 ?_
  refine eb_aload_n (pc := 785) (n := 0) (i := 0) rfl rfl rfl ?_
  refine eb_iload_n (pc := 786) (n := 3) (i := 3) rfl rfl rfl ?_
  refine eb_iconst (pc := 787) (n := 3) (v := 3) rfl rfl ?_
  refine eb_iadd (pc := 788) rfl ?_
  obtain ⟨c3, w⟩ := w
  refine eb_sload (pc := 789) rfl c3 ?_
  refine eb_aload_n (pc := 790) (n := 0) (i := 0) rfl rfl rfl ?_
  refine eb_iload_n (pc := 791) (n := 3) (i := 3) rfl rfl rfl ?_
  refine eb_iconst (pc := 792) (n := 4) (v := 4) rfl rfl ?_
  refine eb_iadd (pc := 793) rfl ?_
  obtain ⟨c4, w⟩ := w
  refine eb_sload (pc := 794) rfl c4 ?_
  refine eb_ctV (pc := 795) (As := [.int (eb_X h (x3 + 1).toNatClampNeg), .int (eb_X h (x3 + 2).toNatClampNeg), .int (eb_X h (x3 + 3).toNatClampNeg), .int (eb_X h (x3 + 4).toNatClampNeg)]) (rest := []) rfl (by decide) rfl ka1 (by decide) rfl (Nat.le_of_ble_eq_true rfl) ?_
  refine eb_Ct.mono w ?_
  rintro r h5 ⟨y6, rfl, ko7, w⟩
  change eb_Sn _ _ _ 798 _ [.long y6] _ _
  refine eb_aload_n (pc := 798) (n := 2) (i := 2) rfl rfl rfl ?_
  refine eb_aload_n (pc := 799) (n := 0) (i := 0) rfl rfl rfl ?_
  refine eb_iload_n (pc := 800) (n := 3) (i := 3) rfl rfl rfl ?_
  refine eb_iconst (pc := 801) (n := 1) (v := 1) rfl rfl ?_
  refine eb_iadd (pc := 802) rfl ?_
  obtain ⟨c8, w⟩ := w
  refine eb_sload (pc := 803) rfl c8 ?_
  refine eb_aload_n (pc := 804) (n := 0) (i := 0) rfl rfl rfl ?_
  refine eb_iload_n (pc := 805) (n := 3) (i := 3) rfl rfl rfl ?_
  refine eb_iconst (pc := 806) (n := 2) (v := 2) rfl rfl ?_
  refine eb_iadd (pc := 807) rfl ?_
  obtain ⟨c9, w⟩ := w
  refine eb_sload (pc := 808) rfl c9 ?_
  refine eb_aload_n (pc := 809) (n := 0) (i := 0) rfl rfl rfl ?_
  refine eb_iload_n (pc := 810) (n := 3) (i := 3) rfl rfl rfl ?_
  refine eb_iconst (pc := 811) (n := 3) (v := 3) rfl rfl ?_
  refine eb_iadd (pc := 812) rfl ?_
  obtain ⟨c10, w⟩ := w
  refine eb_sload (pc := 813) rfl c10 ?_
  refine eb_aload_n (pc := 814) (n := 0) (i := 0) rfl rfl rfl ?_
  refine eb_iload_n (pc := 815) (n := 3) (i := 3) rfl rfl rfl ?_
  refine eb_iconst (pc := 816) (n := 4) (v := 4) rfl rfl ?_
  refine eb_iadd (pc := 817) rfl ?_
  obtain ⟨c11, w⟩ := w
  refine eb_sload (pc := 818) rfl c11 ?_
  refine eb_ctV (pc := 819) (As := [.int (eb_X h5 (x3 + 1).toNatClampNeg), .int (eb_X h5 (x3 + 2).toNatClampNeg), .int (eb_X h5 (x3 + 3).toNatClampNeg), .int (eb_X h5 (x3 + 4).toNatClampNeg)]) (rest := [.long y6]) rfl (by decide) rfl ka2 (by decide) rfl (Nat.le_of_ble_eq_true rfl) ?_
  refine eb_Ct.mono w ?_
  rintro r h12 ⟨y13, rfl, ko14, w⟩
  change eb_Sn _ _ _ 822 _ [.long y13, .long y6] _ _
  refine eb_lcmp (pc := 822) rfl ?_
  refine eb_if_eq (pc := 823) (tgt := 1672) rfl (by decide) (fun c15 => ?_) (fun c15 => ?_)
  · replace c15 := eb_lc_eq.mp c15
    replace w := w.1 c15
    exact eb_pick [0, 1, 2, 3] rfl w
  · replace c15 := (fun hh => mt eb_lc_eq.mpr hh) c15
    replace w := w.2 c15
    refine eb_iconst (pc := 826) (n := 0) (v := 0) rfl rfl ?_
    exact eb_ireturn (pc := 827) rfl rfl (by decide) w
set_option maxRecDepth 200000 in
theorem b_L_law_828 {d : Nat} {h0 h : eb_H} {Q : Option Value → eb_H → Prop} (a1 : Nat) (a2 : Nat) (x3 : Int32) (ka1 : eb_kd a1 = 10) (ka2 : eb_kd a2 = 11) (ko : eb_KO h) (w : (vp_in (x3 + 1) (eb_XL h)) ∧ (vp_in (x3 + 2) (eb_XL h)) ∧ (vp_in (x3 + 3) (eb_XL h)) ∧ eb_Ct d 115 [.ref a1, .int (eb_X h (x3 + 1).toNatClampNeg), .int (eb_X h (x3 + 2).toNatClampNeg), .int (eb_X h (x3 + 3).toNatClampNeg)] h (fun r h4 => ∃ y5, r = some (.int y5) ∧ eb_KO h4 ∧ (vp_in (x3 + 1) (eb_XL h4)) ∧ (vp_in (x3 + 2) (eb_XL h4)) ∧ (vp_in (x3 + 3) (eb_XL h4)) ∧ eb_Ct d 241 [.ref a2, .int (eb_X h4 (x3 + 1).toNatClampNeg), .int (eb_X h4 (x3 + 2).toNatClampNeg), .int (eb_X h4 (x3 + 3).toNatClampNeg)] h4 (fun r h10 => ∃ y11, r = some (.int y11) ∧ eb_KO h10 ∧ ((y5 = y11 → eb_Sn (d + 1) m_L_law h0 1672 [(0, .ref 20), (1, .ref a1), (2, .ref a2), (3, .int x3)] [] h10 Q) ∧ (¬ (y5 = y11) → Q (some (.int 0)) h10))))) : eb_Sn (d + 1) m_L_law h0 828 [(0, .ref 20), (1, .ref a1), (2, .ref a2), (3, .int x3)] [] h Q := by
  refine eb_aload_n (pc := 828) (n := 1) (i := 1) rfl rfl rfl ?_
  refine eb_aload_n (pc := 829) (n := 0) (i := 0) rfl rfl rfl ?_
  refine eb_iload_n (pc := 830) (n := 3) (i := 3) rfl rfl rfl ?_
  refine eb_iconst (pc := 831) (n := 1) (v := 1) rfl rfl ?_
  refine eb_iadd (pc := 832) rfl ?_
  obtain ⟨c1, w⟩ := w
  refine eb_sload (pc := 833) rfl c1 ?_
  refine eb_aload_n (pc := 834) (n := 0) (i := 0) rfl rfl rfl ?_
  refine eb_iload_n (pc := 835) (n := 3) (i := 3) rfl rfl rfl ?_
  refine eb_iconst (pc := 836) (n := 2) (v := 2) rfl rfl ?_
  refine eb_iadd (pc := 837) rfl ?_
  obtain ⟨c2, w⟩ := w
  refine eb_sload (pc := 838) rfl c2 ?_
  refine eb_aload_n (pc := 839) (n := 0) (i := 0) rfl rfl rfl ?_
  refine eb_iload_n (pc := 840) (n := 3) (i := 3) rfl rfl rfl ?_
  refine eb_iconst (pc := 841) (n := 3) (v := 3) rfl rfl ?_
  refine eb_iadd (pc := 842) rfl ?_
  obtain ⟨c3, w⟩ := w
  refine eb_sload (pc := 843) rfl c3 ?_
  refine eb_ctV (pc := 844) (As := [.int (eb_X h (x3 + 1).toNatClampNeg), .int (eb_X h (x3 + 2).toNatClampNeg), .int (eb_X h (x3 + 3).toNatClampNeg)]) (rest := []) rfl (by decide) rfl ka1 (by decide) rfl (Nat.le_of_ble_eq_true rfl) ?_
  refine eb_Ct.mono w ?_
  rintro r h4 ⟨y5, rfl, ko6, w⟩
  change eb_Sn _ _ _ 847 _ [.int y5] _ _
  refine eb_aload_n (pc := 847) (n := 2) (i := 2) rfl rfl rfl ?_
  refine eb_aload_n (pc := 848) (n := 0) (i := 0) rfl rfl rfl ?_
  refine eb_iload_n (pc := 849) (n := 3) (i := 3) rfl rfl rfl ?_
  refine eb_iconst (pc := 850) (n := 1) (v := 1) rfl rfl ?_
  refine eb_iadd (pc := 851) rfl ?_
  obtain ⟨c7, w⟩ := w
  refine eb_sload (pc := 852) rfl c7 ?_
  refine eb_aload_n (pc := 853) (n := 0) (i := 0) rfl rfl rfl ?_
  refine eb_iload_n (pc := 854) (n := 3) (i := 3) rfl rfl rfl ?_
  refine eb_iconst (pc := 855) (n := 2) (v := 2) rfl rfl ?_
  refine eb_iadd (pc := 856) rfl ?_
  obtain ⟨c8, w⟩ := w
  refine eb_sload (pc := 857) rfl c8 ?_
  refine eb_aload_n (pc := 858) (n := 0) (i := 0) rfl rfl rfl ?_
  refine eb_iload_n (pc := 859) (n := 3) (i := 3) rfl rfl rfl ?_
  refine eb_iconst (pc := 860) (n := 3) (v := 3) rfl rfl ?_
  refine eb_iadd (pc := 861) rfl ?_
  obtain ⟨c9, w⟩ := w
  refine eb_sload (pc := 862) rfl c9 ?_
  refine eb_ctV (pc := 863) (As := [.int (eb_X h4 (x3 + 1).toNatClampNeg), .int (eb_X h4 (x3 + 2).toNatClampNeg), .int (eb_X h4 (x3 + 3).toNatClampNeg)]) (rest := [.int y5]) rfl (by decide) rfl ka2 (by decide) rfl (Nat.le_of_ble_eq_true rfl) ?_
  refine eb_Ct.mono w ?_
  rintro r h10 ⟨y11, rfl, ko12, w⟩
  change eb_Sn _ _ _ 866 _ [.int y11, .int y5] _ _
  refine eb_icmp_eq (pc := 866) (tgt := 1672) rfl (by decide) (fun c13 => ?_) (fun c13 => ?_)
  · replace w := w.1 c13
    exact eb_pick [0, 1, 2, 3] rfl w
  · replace w := w.2 c13
    refine eb_iconst (pc := 869) (n := 0) (v := 0) rfl rfl ?_
    exact eb_ireturn (pc := 870) rfl rfl (by decide) w
set_option maxRecDepth 200000 in
theorem b_L_law_871 {d : Nat} {h0 h : eb_H} {Q : Option Value → eb_H → Prop} (a1 : Nat) (a2 : Nat) (x3 : Int32) (ka1 : eb_kd a1 = 10) (ka2 : eb_kd a2 = 11) (ko : eb_KO h) (w : eb_Ct d 116 [.ref a1] h (fun r h1 => ∃ y2, r = some (.int y2) ∧ eb_KO h1 ∧ eb_Ct d 242 [.ref a2] h1 (fun r h4 => ∃ y5, r = some (.int y5) ∧ eb_KO h4 ∧ ((y2 = y5 → eb_Sn (d + 1) m_L_law h0 1672 [(0, .ref 20), (1, .ref a1), (2, .ref a2), (3, .int x3)] [] h4 Q) ∧ (¬ (y2 = y5) → Q (some (.int 0)) h4))))) : eb_Sn (d + 1) m_L_law h0 871 [(0, .ref 20), (1, .ref a1), (2, .ref a2), (3, .int x3)] [] h Q := by
  refine eb_aload_n (pc := 871) (n := 1) (i := 1) rfl rfl rfl ?_
  refine eb_ctV (pc := 872) (As := []) (rest := []) rfl (by decide) rfl ka1 (by decide) rfl (Nat.le_of_ble_eq_true rfl) ?_
  refine eb_Ct.mono w ?_
  rintro r h1 ⟨y2, rfl, ko3, w⟩
  change eb_Sn _ _ _ 875 _ [.int y2] _ _
  refine eb_aload_n (pc := 875) (n := 2) (i := 2) rfl rfl rfl ?_
  refine eb_ctV (pc := 876) (As := []) (rest := [.int y2]) rfl (by decide) rfl ka2 (by decide) rfl (Nat.le_of_ble_eq_true rfl) ?_
  refine eb_Ct.mono w ?_
  rintro r h4 ⟨y5, rfl, ko6, w⟩
  change eb_Sn _ _ _ 879 _ [.int y5, .int y2] _ _
  refine eb_icmp_eq (pc := 879) (tgt := 1672) rfl (by decide) (fun c7 => ?_) (fun c7 => ?_)
  · replace w := w.1 c7
    exact eb_pick [0, 1, 2, 3] rfl w
  · replace w := w.2 c7
    refine eb_iconst (pc := 882) (n := 0) (v := 0) rfl rfl ?_
    exact eb_ireturn (pc := 883) rfl rfl (by decide) w
set_option maxRecDepth 200000 in
theorem b_L_law_884 {d : Nat} {h0 h : eb_H} {Q : Option Value → eb_H → Prop} (a1 : Nat) (a2 : Nat) (x3 : Int32) (ka1 : eb_kd a1 = 10) (ka2 : eb_kd a2 = 11) (ko : eb_KO h) (w : eb_Ct d 117 [.ref a1] h (fun r h1 => ∃ y2, r = some (.int y2) ∧ eb_KO h1 ∧ eb_Ct d 243 [.ref a2] h1 (fun r h4 => ∃ y5, r = some (.int y5) ∧ eb_KO h4 ∧ ((y2 = y5 → eb_Sn (d + 1) m_L_law h0 1672 [(0, .ref 20), (1, .ref a1), (2, .ref a2), (3, .int x3)] [] h4 Q) ∧ (¬ (y2 = y5) → Q (some (.int 0)) h4))))) : eb_Sn (d + 1) m_L_law h0 884 [(0, .ref 20), (1, .ref a1), (2, .ref a2), (3, .int x3)] [] h Q := by
  refine eb_aload_n (pc := 884) (n := 1) (i := 1) rfl rfl rfl ?_
  refine eb_ctV (pc := 885) (As := []) (rest := []) rfl (by decide) rfl ka1 (by decide) rfl (Nat.le_of_ble_eq_true rfl) ?_
  refine eb_Ct.mono w ?_
  rintro r h1 ⟨y2, rfl, ko3, w⟩
  change eb_Sn _ _ _ 888 _ [.int y2] _ _
  refine eb_aload_n (pc := 888) (n := 2) (i := 2) rfl rfl rfl ?_
  refine eb_ctV (pc := 889) (As := []) (rest := [.int y2]) rfl (by decide) rfl ka2 (by decide) rfl (Nat.le_of_ble_eq_true rfl) ?_
  refine eb_Ct.mono w ?_
  rintro r h4 ⟨y5, rfl, ko6, w⟩
  change eb_Sn _ _ _ 892 _ [.int y5, .int y2] _ _
  refine eb_icmp_eq (pc := 892) (tgt := 1672) rfl (by decide) (fun c7 => ?_) (fun c7 => ?_)
  · replace w := w.1 c7
    exact eb_pick [0, 1, 2, 3] rfl w
  · replace w := w.2 c7
    refine eb_iconst (pc := 895) (n := 0) (v := 0) rfl rfl ?_
    exact eb_ireturn (pc := 896) rfl rfl (by decide) w
set_option maxRecDepth 200000 in
theorem b_L_law_897 {d : Nat} {h0 h : eb_H} {Q : Option Value → eb_H → Prop} (a1 : Nat) (a2 : Nat) (x3 : Int32) (ka1 : eb_kd a1 = 10) (ka2 : eb_kd a2 = 11) (ko : eb_KO h) (w : (vp_in (x3 + 1) (eb_XL h)) ∧ eb_Ct d 118 [.ref a1, .int (eb_X h (x3 + 1).toNatClampNeg)] h (fun r h2 => ∃ y3, r = some (.int y3) ∧ eb_KO h2 ∧ (vp_in (x3 + 1) (eb_XL h2)) ∧ eb_Ct d 244 [.ref a2, .int (eb_X h2 (x3 + 1).toNatClampNeg)] h2 (fun r h6 => ∃ y7, r = some (.int y7) ∧ eb_KO h6 ∧ ((y3 = y7 → eb_Sn (d + 1) m_L_law h0 1672 [(0, .ref 20), (1, .ref a1), (2, .ref a2), (3, .int x3)] [] h6 Q) ∧ (¬ (y3 = y7) → Q (some (.int 0)) h6))))) : eb_Sn (d + 1) m_L_law h0 897 [(0, .ref 20), (1, .ref a1), (2, .ref a2), (3, .int x3)] [] h Q := by
  refine eb_aload_n (pc := 897) (n := 1) (i := 1) rfl rfl rfl ?_
  refine eb_aload_n (pc := 898) (n := 0) (i := 0) rfl rfl rfl ?_
  refine eb_iload_n (pc := 899) (n := 3) (i := 3) rfl rfl rfl ?_
  refine eb_iconst (pc := 900) (n := 1) (v := 1) rfl rfl ?_
  refine eb_iadd (pc := 901) rfl ?_
  obtain ⟨c1, w⟩ := w
  refine eb_sload (pc := 902) rfl c1 ?_
  refine eb_ctV (pc := 903) (As := [.int (eb_X h (x3 + 1).toNatClampNeg)]) (rest := []) rfl (by decide) rfl ka1 (by decide) rfl (Nat.le_of_ble_eq_true rfl) ?_
  refine eb_Ct.mono w ?_
  rintro r h2 ⟨y3, rfl, ko4, w⟩
  change eb_Sn _ _ _ 906 _ [.int y3] _ _
  refine eb_aload_n (pc := 906) (n := 2) (i := 2) rfl rfl rfl ?_
  refine eb_aload_n (pc := 907) (n := 0) (i := 0) rfl rfl rfl ?_
  refine eb_iload_n (pc := 908) (n := 3) (i := 3) rfl rfl rfl ?_
  refine eb_iconst (pc := 909) (n := 1) (v := 1) rfl rfl ?_
  refine eb_iadd (pc := 910) rfl ?_
  obtain ⟨c5, w⟩ := w
  refine eb_sload (pc := 911) rfl c5 ?_
  refine eb_ctV (pc := 912) (As := [.int (eb_X h2 (x3 + 1).toNatClampNeg)]) (rest := [.int y3]) rfl (by decide) rfl ka2 (by decide) rfl (Nat.le_of_ble_eq_true rfl) ?_
  refine eb_Ct.mono w ?_
  rintro r h6 ⟨y7, rfl, ko8, w⟩
  change eb_Sn _ _ _ 915 _ [.int y7, .int y3] _ _
  refine eb_icmp_eq (pc := 915) (tgt := 1672) rfl (by decide) (fun c9 => ?_) (fun c9 => ?_)
  · replace w := w.1 c9
    exact eb_pick [0, 1, 2, 3] rfl w
  · replace w := w.2 c9
    refine eb_iconst (pc := 918) (n := 0) (v := 0) rfl rfl ?_
    exact eb_ireturn (pc := 919) rfl rfl (by decide) w
set_option maxRecDepth 200000 in
theorem b_L_law_920 {d : Nat} {h0 h : eb_H} {Q : Option Value → eb_H → Prop} (a1 : Nat) (a2 : Nat) (x3 : Int32) (ka1 : eb_kd a1 = 10) (ka2 : eb_kd a2 = 11) (ko : eb_KO h) (w : (vp_in (x3 + 1) (eb_XL h)) ∧ eb_Ct d 119 [.ref a1, .int (eb_X h (x3 + 1).toNatClampNeg)] h (fun r h2 => ∃ y3, r = some (.int y3) ∧ eb_KO h2 ∧ (vp_in (x3 + 1) (eb_XL h2)) ∧ eb_Ct d 246 [.ref a2, .int (eb_X h2 (x3 + 1).toNatClampNeg)] h2 (fun r h6 => ∃ y7, r = some (.int y7) ∧ eb_KO h6 ∧ ((y3 = y7 → eb_Sn (d + 1) m_L_law h0 1672 [(0, .ref 20), (1, .ref a1), (2, .ref a2), (3, .int x3)] [] h6 Q) ∧ (¬ (y3 = y7) → Q (some (.int 0)) h6))))) : eb_Sn (d + 1) m_L_law h0 920 [(0, .ref 20), (1, .ref a1), (2, .ref a2), (3, .int x3)] [] h Q := by
  refine eb_aload_n (pc := 920) (n := 1) (i := 1) rfl rfl rfl ?_
  refine eb_aload_n (pc := 921) (n := 0) (i := 0) rfl rfl rfl ?_
  refine eb_iload_n (pc := 922) (n := 3) (i := 3) rfl rfl rfl ?_
  refine eb_iconst (pc := 923) (n := 1) (v := 1) rfl rfl ?_
  refine eb_iadd (pc := 924) rfl ?_
  obtain ⟨c1, w⟩ := w
  refine eb_sload (pc := 925) rfl c1 ?_
  refine eb_ctV (pc := 926) (As := [.int (eb_X h (x3 + 1).toNatClampNeg)]) (rest := []) rfl (by decide) rfl ka1 (by decide) rfl (Nat.le_of_ble_eq_true rfl) ?_
  refine eb_Ct.mono w ?_
  rintro r h2 ⟨y3, rfl, ko4, w⟩
  change eb_Sn _ _ _ 929 _ [.int y3] _ _
  refine eb_aload_n (pc := 929) (n := 2) (i := 2) rfl rfl rfl ?_
  refine eb_aload_n (pc := 930) (n := 0) (i := 0) rfl rfl rfl ?_
  refine eb_iload_n (pc := 931) (n := 3) (i := 3) rfl rfl rfl ?_
  refine eb_iconst (pc := 932) (n := 1) (v := 1) rfl rfl ?_
  refine eb_iadd (pc := 933) rfl ?_
  obtain ⟨c5, w⟩ := w
  refine eb_sload (pc := 934) rfl c5 ?_
  refine eb_ctV (pc := 935) (As := [.int (eb_X h2 (x3 + 1).toNatClampNeg)]) (rest := [.int y3]) rfl (by decide) rfl ka2 (by decide) rfl (Nat.le_of_ble_eq_true rfl) ?_
  refine eb_Ct.mono w ?_
  rintro r h6 ⟨y7, rfl, ko8, w⟩
  change eb_Sn _ _ _ 938 _ [.int y7, .int y3] _ _
  refine eb_icmp_eq (pc := 938) (tgt := 1672) rfl (by decide) (fun c9 => ?_) (fun c9 => ?_)
  · replace w := w.1 c9
    exact eb_pick [0, 1, 2, 3] rfl w
  · replace w := w.2 c9
    refine eb_iconst (pc := 941) (n := 0) (v := 0) rfl rfl ?_
    exact eb_ireturn (pc := 942) rfl rfl (by decide) w
set_option maxRecDepth 200000 in
theorem b_L_law_943 {d : Nat} {h0 h : eb_H} {Q : Option Value → eb_H → Prop} (a1 : Nat) (a2 : Nat) (x3 : Int32) (ka1 : eb_kd a1 = 10) (ka2 : eb_kd a2 = 11) (ko : eb_KO h) (w : (vp_in (x3 + 1) (eb_XL h)) ∧ (vp_in (x3 + 2) (eb_XL h)) ∧ eb_Ct d 120 [.ref a1, .int (eb_X h (x3 + 1).toNatClampNeg), .int (eb_X h (x3 + 2).toNatClampNeg)] h (fun r h3 => ∃ y4, r = some (.int y4) ∧ eb_KO h3 ∧ (vp_in (x3 + 1) (eb_XL h3)) ∧ (vp_in (x3 + 2) (eb_XL h3)) ∧ eb_Ct d 247 [.ref a2, .int (eb_X h3 (x3 + 1).toNatClampNeg), .int (eb_X h3 (x3 + 2).toNatClampNeg)] h3 (fun r h8 => ∃ y9, r = some (.int y9) ∧ eb_KO h8 ∧ ((y4 = y9 → eb_Sn (d + 1) m_L_law h0 1672 [(0, .ref 20), (1, .ref a1), (2, .ref a2), (3, .int x3)] [] h8 Q) ∧ (¬ (y4 = y9) → Q (some (.int 0)) h8))))) : eb_Sn (d + 1) m_L_law h0 943 [(0, .ref 20), (1, .ref a1), (2, .ref a2), (3, .int x3)] [] h Q := by
  refine eb_aload_n (pc := 943) (n := 1) (i := 1) rfl rfl rfl ?_
  refine eb_aload_n (pc := 944) (n := 0) (i := 0) rfl rfl rfl ?_
  refine eb_iload_n (pc := 945) (n := 3) (i := 3) rfl rfl rfl ?_
  refine eb_iconst (pc := 946) (n := 1) (v := 1) rfl rfl ?_
  refine eb_iadd (pc := 947) rfl ?_
  obtain ⟨c1, w⟩ := w
  refine eb_sload (pc := 948) rfl c1 ?_
  refine eb_aload_n (pc := 949) (n := 0) (i := 0) rfl rfl rfl ?_
  refine eb_iload_n (pc := 950) (n := 3) (i := 3) rfl rfl rfl ?_
  refine eb_iconst (pc := 951) (n := 2) (v := 2) rfl rfl ?_
  refine eb_iadd (pc := 952) rfl ?_
  obtain ⟨c2, w⟩ := w
  refine eb_sload (pc := 953) rfl c2 ?_
  refine eb_ctV (pc := 954) (As := [.int (eb_X h (x3 + 1).toNatClampNeg), .int (eb_X h (x3 + 2).toNatClampNeg)]) (rest := []) rfl (by decide) rfl ka1 (by decide) rfl (Nat.le_of_ble_eq_true rfl) ?_
  refine eb_Ct.mono w ?_
  rintro r h3 ⟨y4, rfl, ko5, w⟩
  change eb_Sn _ _ _ 957 _ [.int y4] _ _
  refine eb_aload_n (pc := 957) (n := 2) (i := 2) rfl rfl rfl ?_
  refine eb_aload_n (pc := 958) (n := 0) (i := 0) rfl rfl rfl ?_
  refine eb_iload_n (pc := 959) (n := 3) (i := 3) rfl rfl rfl ?_
  refine eb_iconst (pc := 960) (n := 1) (v := 1) rfl rfl ?_
  refine eb_iadd (pc := 961) rfl ?_
  obtain ⟨c6, w⟩ := w
  refine eb_sload (pc := 962) rfl c6 ?_
  refine eb_aload_n (pc := 963) (n := 0) (i := 0) rfl rfl rfl ?_
  refine eb_iload_n (pc := 964) (n := 3) (i := 3) rfl rfl rfl ?_
  refine eb_iconst (pc := 965) (n := 2) (v := 2) rfl rfl ?_
  refine eb_iadd (pc := 966) rfl ?_
  obtain ⟨c7, w⟩ := w
  refine eb_sload (pc := 967) rfl c7 ?_
  refine eb_ctV (pc := 968) (As := [.int (eb_X h3 (x3 + 1).toNatClampNeg), .int (eb_X h3 (x3 + 2).toNatClampNeg)]) (rest := [.int y4]) rfl (by decide) rfl ka2 (by decide) rfl (Nat.le_of_ble_eq_true rfl) ?_
  refine eb_Ct.mono w ?_
  rintro r h8 ⟨y9, rfl, ko10, w⟩
  change eb_Sn _ _ _ 971 _ [.int y9, .int y4] _ _
  refine eb_icmp_eq (pc := 971) (tgt := 1672) rfl (by decide) (fun c11 => ?_) (fun c11 => ?_)
  · replace w := w.1 c11
    exact eb_pick [0, 1, 2, 3] rfl w
  · replace w := w.2 c11
    refine eb_iconst (pc := 974) (n := 0) (v := 0) rfl rfl ?_
    exact eb_ireturn (pc := 975) rfl rfl (by decide) w
set_option maxRecDepth 200000 in
theorem b_L_law_976 {d : Nat} {h0 h : eb_H} {Q : Option Value → eb_H → Prop} (a1 : Nat) (a2 : Nat) (x3 : Int32) (ka1 : eb_kd a1 = 10) (ka2 : eb_kd a2 = 11) (ko : eb_KO h) (w : (vp_in (x3 + 1) (eb_XL h)) ∧ (vp_in (x3 + 2) (eb_XL h)) ∧ eb_Ct d 121 [.ref a1, .int (eb_X h (x3 + 1).toNatClampNeg), .int (eb_X h (x3 + 2).toNatClampNeg)] h (fun r h3 => ∃ y4, r = some (.int y4) ∧ eb_KO h3 ∧ (vp_in (x3 + 1) (eb_XL h3)) ∧ (vp_in (x3 + 2) (eb_XL h3)) ∧ eb_Ct d 248 [.ref a2, .int (eb_X h3 (x3 + 1).toNatClampNeg), .int (eb_X h3 (x3 + 2).toNatClampNeg)] h3 (fun r h8 => ∃ y9, r = some (.int y9) ∧ eb_KO h8 ∧ ((y4 = y9 → eb_Sn (d + 1) m_L_law h0 1672 [(0, .ref 20), (1, .ref a1), (2, .ref a2), (3, .int x3)] [] h8 Q) ∧ (¬ (y4 = y9) → Q (some (.int 0)) h8))))) : eb_Sn (d + 1) m_L_law h0 976 [(0, .ref 20), (1, .ref a1), (2, .ref a2), (3, .int x3)] [] h Q := by
  refine eb_aload_n (pc := 976) (n := 1) (i := 1) rfl rfl rfl ?_
  refine eb_aload_n (pc := 977) (n := 0) (i := 0) rfl rfl rfl ?_
  refine eb_iload_n (pc := 978) (n := 3) (i := 3) rfl rfl rfl ?_
  refine eb_iconst (pc := 979) (n := 1) (v := 1) rfl rfl ?_
  refine eb_iadd (pc := 980) rfl ?_
  obtain ⟨c1, w⟩ := w
  refine eb_sload (pc := 981) rfl c1 ?_
  refine eb_aload_n (pc := 982) (n := 0) (i := 0) rfl rfl rfl ?_
  refine eb_iload_n (pc := 983) (n := 3) (i := 3) rfl rfl rfl ?_
  refine eb_iconst (pc := 984) (n := 2) (v := 2) rfl rfl ?_
  refine eb_iadd (pc := 985) rfl ?_
  obtain ⟨c2, w⟩ := w
  refine eb_sload (pc := 986) rfl c2 ?_
  refine eb_ctV (pc := 987) (As := [.int (eb_X h (x3 + 1).toNatClampNeg), .int (eb_X h (x3 + 2).toNatClampNeg)]) (rest := []) rfl (by decide) rfl ka1 (by decide) rfl (Nat.le_of_ble_eq_true rfl) ?_
  refine eb_Ct.mono w ?_
  rintro r h3 ⟨y4, rfl, ko5, w⟩
  change eb_Sn _ _ _ 990 _ [.int y4] _ _
  refine eb_aload_n (pc := 990) (n := 2) (i := 2) rfl rfl rfl ?_
  refine eb_aload_n (pc := 991) (n := 0) (i := 0) rfl rfl rfl ?_
  refine eb_iload_n (pc := 992) (n := 3) (i := 3) rfl rfl rfl ?_
  refine eb_iconst (pc := 993) (n := 1) (v := 1) rfl rfl ?_
  refine eb_iadd (pc := 994) rfl ?_
  obtain ⟨c6, w⟩ := w
  refine eb_sload (pc := 995) rfl c6 ?_
  refine eb_aload_n (pc := 996) (n := 0) (i := 0) rfl rfl rfl ?_
  refine eb_iload_n (pc := 997) (n := 3) (i := 3) rfl rfl rfl ?_
  refine eb_iconst (pc := 998) (n := 2) (v := 2) rfl rfl ?_
  refine eb_iadd (pc := 999) rfl ?_
  obtain ⟨c7, w⟩ := w
  refine eb_sload (pc := 1000) rfl c7 ?_
  refine eb_ctV (pc := 1001) (As := [.int (eb_X h3 (x3 + 1).toNatClampNeg), .int (eb_X h3 (x3 + 2).toNatClampNeg)]) (rest := [.int y4]) rfl (by decide) rfl ka2 (by decide) rfl (Nat.le_of_ble_eq_true rfl) ?_
  refine eb_Ct.mono w ?_
  rintro r h8 ⟨y9, rfl, ko10, w⟩
  change eb_Sn _ _ _ 1004 _ [.int y9, .int y4] _ _
  refine eb_icmp_eq (pc := 1004) (tgt := 1672) rfl (by decide) (fun c11 => ?_) (fun c11 => ?_)
  · replace w := w.1 c11
    exact eb_pick [0, 1, 2, 3] rfl w
  · replace w := w.2 c11
    refine eb_iconst (pc := 1007) (n := 0) (v := 0) rfl rfl ?_
    exact eb_ireturn (pc := 1008) rfl rfl (by decide) w
set_option maxRecDepth 200000 in
theorem b_L_law_1009 {d : Nat} {h0 h : eb_H} {Q : Option Value → eb_H → Prop} (a1 : Nat) (a2 : Nat) (x3 : Int32) (ka1 : eb_kd a1 = 10) (ka2 : eb_kd a2 = 11) (ko : eb_KO h) (w : (vp_in (x3 + 1) (eb_XL h)) ∧ (vp_in (x3 + 2) (eb_XL h)) ∧ (vp_in (x3 + 3) (eb_XL h)) ∧ eb_Ct d 122 [.ref a1, .int (eb_X h (x3 + 1).toNatClampNeg), .int (eb_X h (x3 + 2).toNatClampNeg), .int (eb_X h (x3 + 3).toNatClampNeg)] h (fun r h4 => ∃ y5, r = some (.long y5) ∧ eb_KO h4 ∧ (vp_in (x3 + 1) (eb_XL h4)) ∧ (vp_in (x3 + 2) (eb_XL h4)) ∧ (vp_in (x3 + 3) (eb_XL h4)) ∧ eb_Ct d 251 [.ref a2, .int (eb_X h4 (x3 + 1).toNatClampNeg), .int (eb_X h4 (x3 + 2).toNatClampNeg), .int (eb_X h4 (x3 + 3).toNatClampNeg)] h4 (fun r h10 => ∃ y11, r = some (.long y11) ∧ eb_KO h10 ∧ ((y5 = y11 → eb_Sn (d + 1) m_L_law h0 1672 [(0, .ref 20), (1, .ref a1), (2, .ref a2), (3, .int x3)] [] h10 Q) ∧ (¬ (y5 = y11) → Q (some (.int 0)) h10))))) : eb_Sn (d + 1) m_L_law h0 1009 [(0, .ref 20), (1, .ref a1), (2, .ref a2), (3, .int x3)] [] h Q := by
  refine eb_aload_n (pc := 1009) (n := 1) (i := 1) rfl rfl rfl ?_
  refine eb_aload_n (pc := 1010) (n := 0) (i := 0) rfl rfl rfl ?_
  refine eb_iload_n (pc := 1011) (n := 3) (i := 3) rfl rfl rfl ?_
  refine eb_iconst (pc := 1012) (n := 1) (v := 1) rfl rfl ?_
  refine eb_iadd (pc := 1013) rfl ?_
  obtain ⟨c1, w⟩ := w
  refine eb_sload (pc := 1014) rfl c1 ?_
  refine eb_aload_n (pc := 1015) (n := 0) (i := 0) rfl rfl rfl ?_
  refine eb_iload_n (pc := 1016) (n := 3) (i := 3) rfl rfl rfl ?_
  refine eb_iconst (pc := 1017) (n := 2) (v := 2) rfl rfl ?_
  refine eb_iadd (pc := 1018) rfl ?_
  obtain ⟨c2, w⟩ := w
  refine eb_sload (pc := 1019) rfl c2 ?_
  refine eb_aload_n (pc := 1020) (n := 0) (i := 0) rfl rfl rfl ?_
  refine eb_iload_n (pc := 1021) (n := 3) (i := 3) rfl rfl rfl ?_
  refine eb_iconst (pc := 1022) (n := 3) (v := 3) rfl rfl ?_
  refine eb_iadd (pc := 1023) rfl ?_
  obtain ⟨c3, w⟩ := w
  refine eb_sload (pc := 1024) rfl c3 ?_
  refine eb_ctV (pc := 1025) (As := [.int (eb_X h (x3 + 1).toNatClampNeg), .int (eb_X h (x3 + 2).toNatClampNeg), .int (eb_X h (x3 + 3).toNatClampNeg)]) (rest := []) rfl (by decide) rfl ka1 (by decide) rfl (Nat.le_of_ble_eq_true rfl) ?_
  refine eb_Ct.mono w ?_
  rintro r h4 ⟨y5, rfl, ko6, w⟩
  change eb_Sn _ _ _ 1028 _ [.long y5] _ _
  refine eb_aload_n (pc := 1028) (n := 2) (i := 2) rfl rfl rfl ?_
  refine eb_aload_n (pc := 1029) (n := 0) (i := 0) rfl rfl rfl ?_
  refine eb_iload_n (pc := 1030) (n := 3) (i := 3) rfl rfl rfl ?_
  refine eb_iconst (pc := 1031) (n := 1) (v := 1) rfl rfl ?_
  refine eb_iadd (pc := 1032) rfl ?_
  obtain ⟨c7, w⟩ := w
  refine eb_sload (pc := 1033) rfl c7 ?_
  refine eb_aload_n (pc := 1034) (n := 0) (i := 0) rfl rfl rfl ?_
  refine eb_iload_n (pc := 1035) (n := 3) (i := 3) rfl rfl rfl ?_
  refine eb_iconst (pc := 1036) (n := 2) (v := 2) rfl rfl ?_
  refine eb_iadd (pc := 1037) rfl ?_
  obtain ⟨c8, w⟩ := w
  refine eb_sload (pc := 1038) rfl c8 ?_
  refine eb_aload_n (pc := 1039) (n := 0) (i := 0) rfl rfl rfl ?_
  refine eb_iload_n (pc := 1040) (n := 3) (i := 3) rfl rfl rfl ?_
  refine eb_iconst (pc := 1041) (n := 3) (v := 3) rfl rfl ?_
  refine eb_iadd (pc := 1042) rfl ?_
  obtain ⟨c9, w⟩ := w
  refine eb_sload (pc := 1043) rfl c9 ?_
  refine eb_ctV (pc := 1044) (As := [.int (eb_X h4 (x3 + 1).toNatClampNeg), .int (eb_X h4 (x3 + 2).toNatClampNeg), .int (eb_X h4 (x3 + 3).toNatClampNeg)]) (rest := [.long y5]) rfl (by decide) rfl ka2 (by decide) rfl (Nat.le_of_ble_eq_true rfl) ?_
  refine eb_Ct.mono w ?_
  rintro r h10 ⟨y11, rfl, ko12, w⟩
  change eb_Sn _ _ _ 1047 _ [.long y11, .long y5] _ _
  refine eb_lcmp (pc := 1047) rfl ?_
  refine eb_if_eq (pc := 1048) (tgt := 1672) rfl (by decide) (fun c13 => ?_) (fun c13 => ?_)
  · replace c13 := eb_lc_eq.mp c13
    replace w := w.1 c13
    exact eb_pick [0, 1, 2, 3] rfl w
  · replace c13 := (fun hh => mt eb_lc_eq.mpr hh) c13
    replace w := w.2 c13
    refine eb_iconst (pc := 1051) (n := 0) (v := 0) rfl rfl ?_
    exact eb_ireturn (pc := 1052) rfl rfl (by decide) w
set_option maxRecDepth 200000 in
theorem b_L_law_1053 {d : Nat} {h0 h : eb_H} {Q : Option Value → eb_H → Prop} (a1 : Nat) (a2 : Nat) (x3 : Int32) (ka1 : eb_kd a1 = 10) (ka2 : eb_kd a2 = 11) (ko : eb_KO h) (w : (vp_in (x3 + 1) (eb_XL h)) ∧ (vp_in (x3 + 2) (eb_XL h)) ∧ (vp_in (x3 + 3) (eb_XL h)) ∧ (vp_in (x3 + 4) (eb_XL h)) ∧ eb_Ct d 123 [.ref a1, .int (eb_X h (x3 + 1).toNatClampNeg), .int (eb_X h (x3 + 2).toNatClampNeg), .int (eb_X h (x3 + 3).toNatClampNeg), .int (eb_X h (x3 + 4).toNatClampNeg)] h (fun r h5 => ∃ y6, r = some (.int y6) ∧ eb_KO h5 ∧ (vp_in (x3 + 1) (eb_XL h5)) ∧ (vp_in (x3 + 2) (eb_XL h5)) ∧ (vp_in (x3 + 3) (eb_XL h5)) ∧ (vp_in (x3 + 4) (eb_XL h5)) ∧ eb_Ct d 252 [.ref a2, .int (eb_X h5 (x3 + 1).toNatClampNeg), .int (eb_X h5 (x3 + 2).toNatClampNeg), .int (eb_X h5 (x3 + 3).toNatClampNeg), .int (eb_X h5 (x3 + 4).toNatClampNeg)] h5 (fun r h12 => ∃ y13, r = some (.int y13) ∧ eb_KO h12 ∧ ((y6 = y13 → eb_Sn (d + 1) m_L_law h0 1672 [(0, .ref 20), (1, .ref a1), (2, .ref a2), (3, .int x3)] [] h12 Q) ∧ (¬ (y6 = y13) → Q (some (.int 0)) h12))))) : eb_Sn (d + 1) m_L_law h0 1053 [(0, .ref 20), (1, .ref a1), (2, .ref a2), (3, .int x3)] [] h Q := by
  refine eb_aload_n (pc := 1053) (n := 1) (i := 1) rfl rfl rfl ?_
  refine eb_aload_n (pc := 1054) (n := 0) (i := 0) rfl rfl rfl ?_
  refine eb_iload_n (pc := 1055) (n := 3) (i := 3) rfl rfl rfl ?_
  refine eb_iconst (pc := 1056) (n := 1) (v := 1) rfl rfl ?_
  refine eb_iadd (pc := 1057) rfl ?_
  obtain ⟨c1, w⟩ := w
  refine eb_sload (pc := 1058) rfl c1 ?_
  refine eb_aload_n (pc := 1059) (n := 0) (i := 0) rfl rfl rfl ?_
  refine eb_iload_n (pc := 1060) (n := 3) (i := 3) rfl rfl rfl ?_
  refine eb_iconst (pc := 1061) (n := 2) (v := 2) rfl rfl ?_
  refine eb_iadd (pc := 1062) rfl ?_
  obtain ⟨c2, w⟩ := w
  refine eb_sload (pc := 1063) rfl c2 ?_
  refine eb_aload_n (pc := 1064) (n := 0) (i := 0) rfl rfl rfl ?_
  refine eb_iload_n (pc := 1065) (n := 3) (i := 3) rfl rfl rfl ?_
  refine eb_iconst (pc := 1066) (n := 3) (v := 3) rfl rfl ?_
  refine eb_iadd (pc := 1067) rfl ?_
  obtain ⟨c3, w⟩ := w
  refine eb_sload (pc := 1068) rfl c3 ?_
  refine eb_aload_n (pc := 1069) (n := 0) (i := 0) rfl rfl rfl ?_
  refine eb_iload_n (pc := 1070) (n := 3) (i := 3) rfl rfl rfl ?_
  refine eb_iconst (pc := 1071) (n := 4) (v := 4) rfl rfl ?_
  refine eb_iadd (pc := 1072) rfl ?_
  obtain ⟨c4, w⟩ := w
  refine eb_sload (pc := 1073) rfl c4 ?_
  refine eb_ctV (pc := 1074) (As := [.int (eb_X h (x3 + 1).toNatClampNeg), .int (eb_X h (x3 + 2).toNatClampNeg), .int (eb_X h (x3 + 3).toNatClampNeg), .int (eb_X h (x3 + 4).toNatClampNeg)]) (rest := []) rfl (by decide) rfl ka1 (by decide) rfl (Nat.le_of_ble_eq_true rfl) ?_
  refine eb_Ct.mono w ?_
  rintro r h5 ⟨y6, rfl, ko7, w⟩
  change eb_Sn _ _ _ 1077 _ [.int y6] _ _
  refine eb_aload_n (pc := 1077) (n := 2) (i := 2) rfl rfl rfl ?_
  refine eb_aload_n (pc := 1078) (n := 0) (i := 0) rfl rfl rfl ?_
  refine eb_iload_n (pc := 1079) (n := 3) (i := 3) rfl rfl rfl ?_
  refine eb_iconst (pc := 1080) (n := 1) (v := 1) rfl rfl ?_
  refine eb_iadd (pc := 1081) rfl ?_
  obtain ⟨c8, w⟩ := w
  refine eb_sload (pc := 1082) rfl c8 ?_
  refine eb_aload_n (pc := 1083) (n := 0) (i := 0) rfl rfl rfl ?_
  refine eb_iload_n (pc := 1084) (n := 3) (i := 3) rfl rfl rfl ?_
  refine eb_iconst (pc := 1085) (n := 2) (v := 2) rfl rfl ?_
  refine eb_iadd (pc := 1086) rfl ?_
  obtain ⟨c9, w⟩ := w
  refine eb_sload (pc := 1087) rfl c9 ?_
  refine eb_aload_n (pc := 1088) (n := 0) (i := 0) rfl rfl rfl ?_
  refine eb_iload_n (pc := 1089) (n := 3) (i := 3) rfl rfl rfl ?_
  refine eb_iconst (pc := 1090) (n := 3) (v := 3) rfl rfl ?_
  refine eb_iadd (pc := 1091) rfl ?_
  obtain ⟨c10, w⟩ := w
  refine eb_sload (pc := 1092) rfl c10 ?_
  refine eb_aload_n (pc := 1093) (n := 0) (i := 0) rfl rfl rfl ?_
  refine eb_iload_n (pc := 1094) (n := 3) (i := 3) rfl rfl rfl ?_
  refine eb_iconst (pc := 1095) (n := 4) (v := 4) rfl rfl ?_
  refine eb_iadd (pc := 1096) rfl ?_
  obtain ⟨c11, w⟩ := w
  refine eb_sload (pc := 1097) rfl c11 ?_
  refine eb_ctV (pc := 1098) (As := [.int (eb_X h5 (x3 + 1).toNatClampNeg), .int (eb_X h5 (x3 + 2).toNatClampNeg), .int (eb_X h5 (x3 + 3).toNatClampNeg), .int (eb_X h5 (x3 + 4).toNatClampNeg)]) (rest := [.int y6]) rfl (by decide) rfl ka2 (by decide) rfl (Nat.le_of_ble_eq_true rfl) ?_
  refine eb_Ct.mono w ?_
  rintro r h12 ⟨y13, rfl, ko14, w⟩
  change eb_Sn _ _ _ 1101 _ [.int y13, .int y6] _ _
  refine eb_icmp_eq (pc := 1101) (tgt := 1672) rfl (by decide) (fun c15 => ?_) (fun c15 => ?_)
  · replace w := w.1 c15
    exact eb_pick [0, 1, 2, 3] rfl w
  · replace w := w.2 c15
    refine eb_iconst (pc := 1104) (n := 0) (v := 0) rfl rfl ?_
    exact eb_ireturn (pc := 1105) rfl rfl (by decide) w
set_option maxRecDepth 200000 in
theorem b_L_law_1106 {d : Nat} {h0 h : eb_H} {Q : Option Value → eb_H → Prop} (a1 : Nat) (a2 : Nat) (x3 : Int32) (ka1 : eb_kd a1 = 10) (ka2 : eb_kd a2 = 11) (ko : eb_KO h) (w : (vp_in (x3 + 1) (eb_XL h)) ∧ (vp_in (x3 + 2) (eb_XL h)) ∧ (vp_in (x3 + 3) (eb_XL h)) ∧ eb_Ct d 124 [.ref a1, .int (eb_X h (x3 + 1).toNatClampNeg), .int (eb_X h (x3 + 2).toNatClampNeg), .int (eb_X h (x3 + 3).toNatClampNeg)] h (fun r h4 => ∃ y5, r = some (.int y5) ∧ eb_KO h4 ∧ (vp_in (x3 + 1) (eb_XL h4)) ∧ (vp_in (x3 + 2) (eb_XL h4)) ∧ (vp_in (x3 + 3) (eb_XL h4)) ∧ eb_Ct d 253 [.ref a2, .int (eb_X h4 (x3 + 1).toNatClampNeg), .int (eb_X h4 (x3 + 2).toNatClampNeg), .int (eb_X h4 (x3 + 3).toNatClampNeg)] h4 (fun r h10 => ∃ y11, r = some (.int y11) ∧ eb_KO h10 ∧ ((y5 = y11 → eb_Sn (d + 1) m_L_law h0 1672 [(0, .ref 20), (1, .ref a1), (2, .ref a2), (3, .int x3)] [] h10 Q) ∧ (¬ (y5 = y11) → Q (some (.int 0)) h10))))) : eb_Sn (d + 1) m_L_law h0 1106 [(0, .ref 20), (1, .ref a1), (2, .ref a2), (3, .int x3)] [] h Q := by
  refine eb_aload_n (pc := 1106) (n := 1) (i := 1) rfl rfl rfl ?_
  refine eb_aload_n (pc := 1107) (n := 0) (i := 0) rfl rfl rfl ?_
  refine eb_iload_n (pc := 1108) (n := 3) (i := 3) rfl rfl rfl ?_
  refine eb_iconst (pc := 1109) (n := 1) (v := 1) rfl rfl ?_
  refine eb_iadd (pc := 1110) rfl ?_
  obtain ⟨c1, w⟩ := w
  refine eb_sload (pc := 1111) rfl c1 ?_
  refine eb_aload_n (pc := 1112) (n := 0) (i := 0) rfl rfl rfl ?_
  refine eb_iload_n (pc := 1113) (n := 3) (i := 3) rfl rfl rfl ?_
  refine eb_iconst (pc := 1114) (n := 2) (v := 2) rfl rfl ?_
  refine eb_iadd (pc := 1115) rfl ?_
  obtain ⟨c2, w⟩ := w
  refine eb_sload (pc := 1116) rfl c2 ?_
  refine eb_aload_n (pc := 1117) (n := 0) (i := 0) rfl rfl rfl ?_
  refine eb_iload_n (pc := 1118) (n := 3) (i := 3) rfl rfl rfl ?_
  refine eb_iconst (pc := 1119) (n := 3) (v := 3) rfl rfl ?_
  refine eb_iadd (pc := 1120) rfl ?_
  obtain ⟨c3, w⟩ := w
  refine eb_sload (pc := 1121) rfl c3 ?_
  refine eb_ctV (pc := 1122) (As := [.int (eb_X h (x3 + 1).toNatClampNeg), .int (eb_X h (x3 + 2).toNatClampNeg), .int (eb_X h (x3 + 3).toNatClampNeg)]) (rest := []) rfl (by decide) rfl ka1 (by decide) rfl (Nat.le_of_ble_eq_true rfl) ?_
  refine eb_Ct.mono w ?_
  rintro r h4 ⟨y5, rfl, ko6, w⟩
  change eb_Sn _ _ _ 1125 _ [.int y5] _ _
  refine eb_aload_n (pc := 1125) (n := 2) (i := 2) rfl rfl rfl ?_
  refine eb_aload_n (pc := 1126) (n := 0) (i := 0) rfl rfl rfl ?_
  refine eb_iload_n (pc := 1127) (n := 3) (i := 3) rfl rfl rfl ?_
  refine eb_iconst (pc := 1128) (n := 1) (v := 1) rfl rfl ?_
  refine eb_iadd (pc := 1129) rfl ?_
  obtain ⟨c7, w⟩ := w
  refine eb_sload (pc := 1130) rfl c7 ?_
  refine eb_aload_n (pc := 1131) (n := 0) (i := 0) rfl rfl rfl ?_
  refine eb_iload_n (pc := 1132) (n := 3) (i := 3) rfl rfl rfl ?_
  refine eb_iconst (pc := 1133) (n := 2) (v := 2) rfl rfl ?_
  refine eb_iadd (pc := 1134) rfl ?_
  obtain ⟨c8, w⟩ := w
  refine eb_sload (pc := 1135) rfl c8 ?_
  refine eb_aload_n (pc := 1136) (n := 0) (i := 0) rfl rfl rfl ?_
  refine eb_iload_n (pc := 1137) (n := 3) (i := 3) rfl rfl rfl ?_
  refine eb_iconst (pc := 1138) (n := 3) (v := 3) rfl rfl ?_
  refine eb_iadd (pc := 1139) rfl ?_
  obtain ⟨c9, w⟩ := w
  refine eb_sload (pc := 1140) rfl c9 ?_
  refine eb_ctV (pc := 1141) (As := [.int (eb_X h4 (x3 + 1).toNatClampNeg), .int (eb_X h4 (x3 + 2).toNatClampNeg), .int (eb_X h4 (x3 + 3).toNatClampNeg)]) (rest := [.int y5]) rfl (by decide) rfl ka2 (by decide) rfl (Nat.le_of_ble_eq_true rfl) ?_
  refine eb_Ct.mono w ?_
  rintro r h10 ⟨y11, rfl, ko12, w⟩
  change eb_Sn _ _ _ 1144 _ [.int y11, .int y5] _ _
  refine eb_icmp_eq (pc := 1144) (tgt := 1672) rfl (by decide) (fun c13 => ?_) (fun c13 => ?_)
  · replace w := w.1 c13
    exact eb_pick [0, 1, 2, 3] rfl w
  · replace w := w.2 c13
    refine eb_iconst (pc := 1147) (n := 0) (v := 0) rfl rfl ?_
    exact eb_ireturn (pc := 1148) rfl rfl (by decide) w
set_option maxRecDepth 200000 in
theorem b_L_law_1149 {d : Nat} {h0 h : eb_H} {Q : Option Value → eb_H → Prop} (a1 : Nat) (a2 : Nat) (x3 : Int32) (ka1 : eb_kd a1 = 10) (ka2 : eb_kd a2 = 11) (ko : eb_KO h) (w : (vp_in (x3 + 1) (eb_XL h)) ∧ (vp_in (x3 + 2) (eb_XL h)) ∧ (vp_in (x3 + 3) (eb_XL h)) ∧ eb_Ct d 125 [.ref a1, .int (eb_X h (x3 + 1).toNatClampNeg), .int (eb_X h (x3 + 2).toNatClampNeg), .int (eb_X h (x3 + 3).toNatClampNeg)] h (fun r h4 => ∃ y5, r = some (.int y5) ∧ eb_KO h4 ∧ (vp_in (x3 + 1) (eb_XL h4)) ∧ (vp_in (x3 + 2) (eb_XL h4)) ∧ (vp_in (x3 + 3) (eb_XL h4)) ∧ eb_Ct d 256 [.ref a2, .int (eb_X h4 (x3 + 1).toNatClampNeg), .int (eb_X h4 (x3 + 2).toNatClampNeg), .int (eb_X h4 (x3 + 3).toNatClampNeg)] h4 (fun r h10 => ∃ y11, r = some (.int y11) ∧ eb_KO h10 ∧ ((y5 = y11 → eb_Sn (d + 1) m_L_law h0 1672 [(0, .ref 20), (1, .ref a1), (2, .ref a2), (3, .int x3)] [] h10 Q) ∧ (¬ (y5 = y11) → Q (some (.int 0)) h10))))) : eb_Sn (d + 1) m_L_law h0 1149 [(0, .ref 20), (1, .ref a1), (2, .ref a2), (3, .int x3)] [] h Q := by
  refine eb_aload_n (pc := 1149) (n := 1) (i := 1) rfl rfl rfl ?_
  refine eb_aload_n (pc := 1150) (n := 0) (i := 0) rfl rfl rfl ?_
  refine eb_iload_n (pc := 1151) (n := 3) (i := 3) rfl rfl rfl ?_
  refine eb_iconst (pc := 1152) (n := 1) (v := 1) rfl rfl ?_
  refine eb_iadd (pc := 1153) rfl ?_
  obtain ⟨c1, w⟩ := w
  refine eb_sload (pc := 1154) rfl c1 ?_
  refine eb_aload_n (pc := 1155) (n := 0) (i := 0) rfl rfl rfl ?_
  refine eb_iload_n (pc := 1156) (n := 3) (i := 3) rfl rfl rfl ?_
  refine eb_iconst (pc := 1157) (n := 2) (v := 2) rfl rfl ?_
  refine eb_iadd (pc := 1158) rfl ?_
  obtain ⟨c2, w⟩ := w
  refine eb_sload (pc := 1159) rfl c2 ?_
  refine eb_aload_n (pc := 1160) (n := 0) (i := 0) rfl rfl rfl ?_
  refine eb_iload_n (pc := 1161) (n := 3) (i := 3) rfl rfl rfl ?_
  refine eb_iconst (pc := 1162) (n := 3) (v := 3) rfl rfl ?_
  refine eb_iadd (pc := 1163) rfl ?_
  obtain ⟨c3, w⟩ := w
  refine eb_sload (pc := 1164) rfl c3 ?_
  refine eb_ctV (pc := 1165) (As := [.int (eb_X h (x3 + 1).toNatClampNeg), .int (eb_X h (x3 + 2).toNatClampNeg), .int (eb_X h (x3 + 3).toNatClampNeg)]) (rest := []) rfl (by decide) rfl ka1 (by decide) rfl (Nat.le_of_ble_eq_true rfl) ?_
  refine eb_Ct.mono w ?_
  rintro r h4 ⟨y5, rfl, ko6, w⟩
  change eb_Sn _ _ _ 1168 _ [.int y5] _ _
  refine eb_aload_n (pc := 1168) (n := 2) (i := 2) rfl rfl rfl ?_
  refine eb_aload_n (pc := 1169) (n := 0) (i := 0) rfl rfl rfl ?_
  refine eb_iload_n (pc := 1170) (n := 3) (i := 3) rfl rfl rfl ?_
  refine eb_iconst (pc := 1171) (n := 1) (v := 1) rfl rfl ?_
  refine eb_iadd (pc := 1172) rfl ?_
  obtain ⟨c7, w⟩ := w
  refine eb_sload (pc := 1173) rfl c7 ?_
  refine eb_aload_n (pc := 1174) (n := 0) (i := 0) rfl rfl rfl ?_
  refine eb_iload_n (pc := 1175) (n := 3) (i := 3) rfl rfl rfl ?_
  refine eb_iconst (pc := 1176) (n := 2) (v := 2) rfl rfl ?_
  refine eb_iadd (pc := 1177) rfl ?_
  obtain ⟨c8, w⟩ := w
  refine eb_sload (pc := 1178) rfl c8 ?_
  refine eb_aload_n (pc := 1179) (n := 0) (i := 0) rfl rfl rfl ?_
  refine eb_iload_n (pc := 1180) (n := 3) (i := 3) rfl rfl rfl ?_
  refine eb_iconst (pc := 1181) (n := 3) (v := 3) rfl rfl ?_
  refine eb_iadd (pc := 1182) rfl ?_
  obtain ⟨c9, w⟩ := w
  refine eb_sload (pc := 1183) rfl c9 ?_
  refine eb_ctV (pc := 1184) (As := [.int (eb_X h4 (x3 + 1).toNatClampNeg), .int (eb_X h4 (x3 + 2).toNatClampNeg), .int (eb_X h4 (x3 + 3).toNatClampNeg)]) (rest := [.int y5]) rfl (by decide) rfl ka2 (by decide) rfl (Nat.le_of_ble_eq_true rfl) ?_
  refine eb_Ct.mono w ?_
  rintro r h10 ⟨y11, rfl, ko12, w⟩
  change eb_Sn _ _ _ 1187 _ [.int y11, .int y5] _ _
  refine eb_icmp_eq (pc := 1187) (tgt := 1672) rfl (by decide) (fun c13 => ?_) (fun c13 => ?_)
  · replace w := w.1 c13
    exact eb_pick [0, 1, 2, 3] rfl w
  · replace w := w.2 c13
    refine eb_iconst (pc := 1190) (n := 0) (v := 0) rfl rfl ?_
    exact eb_ireturn (pc := 1191) rfl rfl (by decide) w
set_option maxRecDepth 200000 in
theorem b_L_law_1192 {d : Nat} {h0 h : eb_H} {Q : Option Value → eb_H → Prop} (a1 : Nat) (a2 : Nat) (x3 : Int32) (ka1 : eb_kd a1 = 10) (ka2 : eb_kd a2 = 11) (ko : eb_KO h) (w : (vp_in (x3 + 1) (eb_XL h)) ∧ (vp_in (x3 + 2) (eb_XL h)) ∧ eb_Ct d 126 [.ref a1, .int (eb_X h (x3 + 1).toNatClampNeg), .int (eb_X h (x3 + 2).toNatClampNeg)] h (fun r h3 => ∃ y4, r = some (.int y4) ∧ eb_KO h3 ∧ (vp_in (x3 + 1) (eb_XL h3)) ∧ (vp_in (x3 + 2) (eb_XL h3)) ∧ eb_Ct d 258 [.ref a2, .int (eb_X h3 (x3 + 1).toNatClampNeg), .int (eb_X h3 (x3 + 2).toNatClampNeg)] h3 (fun r h8 => ∃ y9, r = some (.int y9) ∧ eb_KO h8 ∧ ((y4 = y9 → eb_Sn (d + 1) m_L_law h0 1672 [(0, .ref 20), (1, .ref a1), (2, .ref a2), (3, .int x3)] [] h8 Q) ∧ (¬ (y4 = y9) → Q (some (.int 0)) h8))))) : eb_Sn (d + 1) m_L_law h0 1192 [(0, .ref 20), (1, .ref a1), (2, .ref a2), (3, .int x3)] [] h Q := by
  refine eb_aload_n (pc := 1192) (n := 1) (i := 1) rfl rfl rfl ?_
  refine eb_aload_n (pc := 1193) (n := 0) (i := 0) rfl rfl rfl ?_
  refine eb_iload_n (pc := 1194) (n := 3) (i := 3) rfl rfl rfl ?_
  refine eb_iconst (pc := 1195) (n := 1) (v := 1) rfl rfl ?_
  refine eb_iadd (pc := 1196) rfl ?_
  obtain ⟨c1, w⟩ := w
  refine eb_sload (pc := 1197) rfl c1 ?_
  refine eb_aload_n (pc := 1198) (n := 0) (i := 0) rfl rfl rfl ?_
  refine eb_iload_n (pc := 1199) (n := 3) (i := 3) rfl rfl rfl ?_
  refine eb_iconst (pc := 1200) (n := 2) (v := 2) rfl rfl ?_
  refine eb_iadd (pc := 1201) rfl ?_
  obtain ⟨c2, w⟩ := w
  refine eb_sload (pc := 1202) rfl c2 ?_
  refine eb_ctV (pc := 1203) (As := [.int (eb_X h (x3 + 1).toNatClampNeg), .int (eb_X h (x3 + 2).toNatClampNeg)]) (rest := []) rfl (by decide) rfl ka1 (by decide) rfl (Nat.le_of_ble_eq_true rfl) ?_
  refine eb_Ct.mono w ?_
  rintro r h3 ⟨y4, rfl, ko5, w⟩
  change eb_Sn _ _ _ 1206 _ [.int y4] _ _
  refine eb_aload_n (pc := 1206) (n := 2) (i := 2) rfl rfl rfl ?_
  refine eb_aload_n (pc := 1207) (n := 0) (i := 0) rfl rfl rfl ?_
  refine eb_iload_n (pc := 1208) (n := 3) (i := 3) rfl rfl rfl ?_
  refine eb_iconst (pc := 1209) (n := 1) (v := 1) rfl rfl ?_
  refine eb_iadd (pc := 1210) rfl ?_
  obtain ⟨c6, w⟩ := w
  refine eb_sload (pc := 1211) rfl c6 ?_
  refine eb_aload_n (pc := 1212) (n := 0) (i := 0) rfl rfl rfl ?_
  refine eb_iload_n (pc := 1213) (n := 3) (i := 3) rfl rfl rfl ?_
  refine eb_iconst (pc := 1214) (n := 2) (v := 2) rfl rfl ?_
  refine eb_iadd (pc := 1215) rfl ?_
  obtain ⟨c7, w⟩ := w
  refine eb_sload (pc := 1216) rfl c7 ?_
  refine eb_ctV (pc := 1217) (As := [.int (eb_X h3 (x3 + 1).toNatClampNeg), .int (eb_X h3 (x3 + 2).toNatClampNeg)]) (rest := [.int y4]) rfl (by decide) rfl ka2 (by decide) rfl (Nat.le_of_ble_eq_true rfl) ?_
  refine eb_Ct.mono w ?_
  rintro r h8 ⟨y9, rfl, ko10, w⟩
  change eb_Sn _ _ _ 1220 _ [.int y9, .int y4] _ _
  refine eb_icmp_eq (pc := 1220) (tgt := 1672) rfl (by decide) (fun c11 => ?_) (fun c11 => ?_)
  · replace w := w.1 c11
    exact eb_pick [0, 1, 2, 3] rfl w
  · replace w := w.2 c11
    refine eb_iconst (pc := 1223) (n := 0) (v := 0) rfl rfl ?_
    exact eb_ireturn (pc := 1224) rfl rfl (by decide) w
set_option maxRecDepth 200000 in
theorem b_L_law_1225 {d : Nat} {h0 h : eb_H} {Q : Option Value → eb_H → Prop} (a1 : Nat) (a2 : Nat) (x3 : Int32) (ka1 : eb_kd a1 = 10) (ka2 : eb_kd a2 = 11) (ko : eb_KO h) (w : (vp_in (x3 + 1) (eb_XL h)) ∧ (vp_in (x3 + 2) (eb_XL h)) ∧ eb_Ct d 127 [.ref a1, .int (eb_X h (x3 + 1).toNatClampNeg), .int (eb_X h (x3 + 2).toNatClampNeg)] h (fun r h3 => ∃ y4, r = some (.int y4) ∧ eb_KO h3 ∧ (vp_in (x3 + 1) (eb_XL h3)) ∧ (vp_in (x3 + 2) (eb_XL h3)) ∧ eb_Ct d 260 [.ref a2, .int (eb_X h3 (x3 + 1).toNatClampNeg), .int (eb_X h3 (x3 + 2).toNatClampNeg)] h3 (fun r h8 => ∃ y9, r = some (.int y9) ∧ eb_KO h8 ∧ ((y4 = y9 → eb_Sn (d + 1) m_L_law h0 1672 [(0, .ref 20), (1, .ref a1), (2, .ref a2), (3, .int x3)] [] h8 Q) ∧ (¬ (y4 = y9) → Q (some (.int 0)) h8))))) : eb_Sn (d + 1) m_L_law h0 1225 [(0, .ref 20), (1, .ref a1), (2, .ref a2), (3, .int x3)] [] h Q := by
  refine eb_aload_n (pc := 1225) (n := 1) (i := 1) rfl rfl rfl ?_
  refine eb_aload_n (pc := 1226) (n := 0) (i := 0) rfl rfl rfl ?_
  refine eb_iload_n (pc := 1227) (n := 3) (i := 3) rfl rfl rfl ?_
  refine eb_iconst (pc := 1228) (n := 1) (v := 1) rfl rfl ?_
  refine eb_iadd (pc := 1229) rfl ?_
  obtain ⟨c1, w⟩ := w
  refine eb_sload (pc := 1230) rfl c1 ?_
  refine eb_aload_n (pc := 1231) (n := 0) (i := 0) rfl rfl rfl ?_
  refine eb_iload_n (pc := 1232) (n := 3) (i := 3) rfl rfl rfl ?_
  refine eb_iconst (pc := 1233) (n := 2) (v := 2) rfl rfl ?_
  refine eb_iadd (pc := 1234) rfl ?_
  obtain ⟨c2, w⟩ := w
  refine eb_sload (pc := 1235) rfl c2 ?_
  refine eb_ctV (pc := 1236) (As := [.int (eb_X h (x3 + 1).toNatClampNeg), .int (eb_X h (x3 + 2).toNatClampNeg)]) (rest := []) rfl (by decide) rfl ka1 (by decide) rfl (Nat.le_of_ble_eq_true rfl) ?_
  refine eb_Ct.mono w ?_
  rintro r h3 ⟨y4, rfl, ko5, w⟩
  change eb_Sn _ _ _ 1239 _ [.int y4] _ _
  refine eb_aload_n (pc := 1239) (n := 2) (i := 2) rfl rfl rfl ?_
  refine eb_aload_n (pc := 1240) (n := 0) (i := 0) rfl rfl rfl ?_
  refine eb_iload_n (pc := 1241) (n := 3) (i := 3) rfl rfl rfl ?_
  refine eb_iconst (pc := 1242) (n := 1) (v := 1) rfl rfl ?_
  refine eb_iadd (pc := 1243) rfl ?_
  obtain ⟨c6, w⟩ := w
  refine eb_sload (pc := 1244) rfl c6 ?_
  refine eb_aload_n (pc := 1245) (n := 0) (i := 0) rfl rfl rfl ?_
  refine eb_iload_n (pc := 1246) (n := 3) (i := 3) rfl rfl rfl ?_
  refine eb_iconst (pc := 1247) (n := 2) (v := 2) rfl rfl ?_
  refine eb_iadd (pc := 1248) rfl ?_
  obtain ⟨c7, w⟩ := w
  refine eb_sload (pc := 1249) rfl c7 ?_
  refine eb_ctV (pc := 1250) (As := [.int (eb_X h3 (x3 + 1).toNatClampNeg), .int (eb_X h3 (x3 + 2).toNatClampNeg)]) (rest := [.int y4]) rfl (by decide) rfl ka2 (by decide) rfl (Nat.le_of_ble_eq_true rfl) ?_
  refine eb_Ct.mono w ?_
  rintro r h8 ⟨y9, rfl, ko10, w⟩
  change eb_Sn _ _ _ 1253 _ [.int y9, .int y4] _ _
  refine eb_icmp_eq (pc := 1253) (tgt := 1672) rfl (by decide) (fun c11 => ?_) (fun c11 => ?_)
  · replace w := w.1 c11
    exact eb_pick [0, 1, 2, 3] rfl w
  · replace w := w.2 c11
    refine eb_iconst (pc := 1256) (n := 0) (v := 0) rfl rfl ?_
    exact eb_ireturn (pc := 1257) rfl rfl (by decide) w
set_option maxRecDepth 200000 in
theorem b_L_law_1258 {d : Nat} {h0 h : eb_H} {Q : Option Value → eb_H → Prop} (a1 : Nat) (a2 : Nat) (x3 : Int32) (ka1 : eb_kd a1 = 10) (ka2 : eb_kd a2 = 11) (ko : eb_KO h) (w : (vp_in (x3 + 1) (eb_XL h)) ∧ (vp_in (x3 + 2) (eb_XL h)) ∧ eb_Ct d 128 [.ref a1, .int (eb_X h (x3 + 1).toNatClampNeg), .int (eb_X h (x3 + 2).toNatClampNeg)] h (fun r h3 => ∃ y4, r = some (.int y4) ∧ eb_KO h3 ∧ (vp_in (x3 + 1) (eb_XL h3)) ∧ (vp_in (x3 + 2) (eb_XL h3)) ∧ eb_Ct d 267 [.ref a2, .int (eb_X h3 (x3 + 1).toNatClampNeg), .int (eb_X h3 (x3 + 2).toNatClampNeg)] h3 (fun r h8 => ∃ y9, r = some (.int y9) ∧ eb_KO h8 ∧ ((y4 = y9 → eb_Sn (d + 1) m_L_law h0 1672 [(0, .ref 20), (1, .ref a1), (2, .ref a2), (3, .int x3)] [] h8 Q) ∧ (¬ (y4 = y9) → Q (some (.int 0)) h8))))) : eb_Sn (d + 1) m_L_law h0 1258 [(0, .ref 20), (1, .ref a1), (2, .ref a2), (3, .int x3)] [] h Q := by
  refine eb_aload_n (pc := 1258) (n := 1) (i := 1) rfl rfl rfl ?_
  refine eb_aload_n (pc := 1259) (n := 0) (i := 0) rfl rfl rfl ?_
  refine eb_iload_n (pc := 1260) (n := 3) (i := 3) rfl rfl rfl ?_
  refine eb_iconst (pc := 1261) (n := 1) (v := 1) rfl rfl ?_
  refine eb_iadd (pc := 1262) rfl ?_
  obtain ⟨c1, w⟩ := w
  refine eb_sload (pc := 1263) rfl c1 ?_
  refine eb_aload_n (pc := 1264) (n := 0) (i := 0) rfl rfl rfl ?_
  refine eb_iload_n (pc := 1265) (n := 3) (i := 3) rfl rfl rfl ?_
  refine eb_iconst (pc := 1266) (n := 2) (v := 2) rfl rfl ?_
  refine eb_iadd (pc := 1267) rfl ?_
  obtain ⟨c2, w⟩ := w
  refine eb_sload (pc := 1268) rfl c2 ?_
  refine eb_ctV (pc := 1269) (As := [.int (eb_X h (x3 + 1).toNatClampNeg), .int (eb_X h (x3 + 2).toNatClampNeg)]) (rest := []) rfl (by decide) rfl ka1 (by decide) rfl (Nat.le_of_ble_eq_true rfl) ?_
  refine eb_Ct.mono w ?_
  rintro r h3 ⟨y4, rfl, ko5, w⟩
  change eb_Sn _ _ _ 1272 _ [.int y4] _ _
  refine eb_aload_n (pc := 1272) (n := 2) (i := 2) rfl rfl rfl ?_
  refine eb_aload_n (pc := 1273) (n := 0) (i := 0) rfl rfl rfl ?_
  refine eb_iload_n (pc := 1274) (n := 3) (i := 3) rfl rfl rfl ?_
  refine eb_iconst (pc := 1275) (n := 1) (v := 1) rfl rfl ?_
  refine eb_iadd (pc := 1276) rfl ?_
  obtain ⟨c6, w⟩ := w
  refine eb_sload (pc := 1277) rfl c6 ?_
  refine eb_aload_n (pc := 1278) (n := 0) (i := 0) rfl rfl rfl ?_
  refine eb_iload_n (pc := 1279) (n := 3) (i := 3) rfl rfl rfl ?_
  refine eb_iconst (pc := 1280) (n := 2) (v := 2) rfl rfl ?_
  refine eb_iadd (pc := 1281) rfl ?_
  obtain ⟨c7, w⟩ := w
  refine eb_sload (pc := 1282) rfl c7 ?_
  refine eb_ctV (pc := 1283) (As := [.int (eb_X h3 (x3 + 1).toNatClampNeg), .int (eb_X h3 (x3 + 2).toNatClampNeg)]) (rest := [.int y4]) rfl (by decide) rfl ka2 (by decide) rfl (Nat.le_of_ble_eq_true rfl) ?_
  refine eb_Ct.mono w ?_
  rintro r h8 ⟨y9, rfl, ko10, w⟩
  change eb_Sn _ _ _ 1286 _ [.int y9, .int y4] _ _
  refine eb_icmp_eq (pc := 1286) (tgt := 1672) rfl (by decide) (fun c11 => ?_) (fun c11 => ?_)
  · replace w := w.1 c11
    exact eb_pick [0, 1, 2, 3] rfl w
  · replace w := w.2 c11
    refine eb_iconst (pc := 1289) (n := 0) (v := 0) rfl rfl ?_
    exact eb_ireturn (pc := 1290) rfl rfl (by decide) w
set_option maxRecDepth 200000 in
theorem b_L_law_1291 {d : Nat} {h0 h : eb_H} {Q : Option Value → eb_H → Prop} (a1 : Nat) (a2 : Nat) (x3 : Int32) (ka1 : eb_kd a1 = 10) (ka2 : eb_kd a2 = 11) (ko : eb_KO h) (w : (vp_in (x3 + 1) (eb_XL h)) ∧ (vp_in (x3 + 2) (eb_XL h)) ∧ eb_Ct d 129 [.ref a1, .int (eb_X h (x3 + 1).toNatClampNeg), .int (eb_X h (x3 + 2).toNatClampNeg)] h (fun r h3 => ∃ y4, r = some (.int y4) ∧ eb_KO h3 ∧ (vp_in (x3 + 1) (eb_XL h3)) ∧ (vp_in (x3 + 2) (eb_XL h3)) ∧ eb_Ct d 268 [.ref a2, .int (eb_X h3 (x3 + 1).toNatClampNeg), .int (eb_X h3 (x3 + 2).toNatClampNeg)] h3 (fun r h8 => ∃ y9, r = some (.int y9) ∧ eb_KO h8 ∧ ((y4 = y9 → eb_Sn (d + 1) m_L_law h0 1672 [(0, .ref 20), (1, .ref a1), (2, .ref a2), (3, .int x3)] [] h8 Q) ∧ (¬ (y4 = y9) → Q (some (.int 0)) h8))))) : eb_Sn (d + 1) m_L_law h0 1291 [(0, .ref 20), (1, .ref a1), (2, .ref a2), (3, .int x3)] [] h Q := by
  refine eb_aload_n (pc := 1291) (n := 1) (i := 1) rfl rfl rfl ?_
  refine eb_aload_n (pc := 1292) (n := 0) (i := 0) rfl rfl rfl ?_
  refine eb_iload_n (pc := 1293) (n := 3) (i := 3) rfl rfl rfl ?_
  refine eb_iconst (pc := 1294) (n := 1) (v := 1) rfl rfl ?_
  refine eb_iadd (pc := 1295) rfl ?_
  obtain ⟨c1, w⟩ := w
  refine eb_sload (pc := 1296) rfl c1 ?_
  refine eb_aload_n (pc := 1297) (n := 0) (i := 0) rfl rfl rfl ?_
  refine eb_iload_n (pc := 1298) (n := 3) (i := 3) rfl rfl rfl ?_
  refine eb_iconst (pc := 1299) (n := 2) (v := 2) rfl rfl ?_
  refine eb_iadd (pc := 1300) rfl ?_
  obtain ⟨c2, w⟩ := w
  refine eb_sload (pc := 1301) rfl c2 ?_
  refine eb_ctV (pc := 1302) (As := [.int (eb_X h (x3 + 1).toNatClampNeg), .int (eb_X h (x3 + 2).toNatClampNeg)]) (rest := []) rfl (by decide) rfl ka1 (by decide) rfl (Nat.le_of_ble_eq_true rfl) ?_
  refine eb_Ct.mono w ?_
  rintro r h3 ⟨y4, rfl, ko5, w⟩
  change eb_Sn _ _ _ 1305 _ [.int y4] _ _
  refine eb_aload_n (pc := 1305) (n := 2) (i := 2) rfl rfl rfl ?_
  refine eb_aload_n (pc := 1306) (n := 0) (i := 0) rfl rfl rfl ?_
  refine eb_iload_n (pc := 1307) (n := 3) (i := 3) rfl rfl rfl ?_
  refine eb_iconst (pc := 1308) (n := 1) (v := 1) rfl rfl ?_
  refine eb_iadd (pc := 1309) rfl ?_
  obtain ⟨c6, w⟩ := w
  refine eb_sload (pc := 1310) rfl c6 ?_
  refine eb_aload_n (pc := 1311) (n := 0) (i := 0) rfl rfl rfl ?_
  refine eb_iload_n (pc := 1312) (n := 3) (i := 3) rfl rfl rfl ?_
  refine eb_iconst (pc := 1313) (n := 2) (v := 2) rfl rfl ?_
  refine eb_iadd (pc := 1314) rfl ?_
  obtain ⟨c7, w⟩ := w
  refine eb_sload (pc := 1315) rfl c7 ?_
  refine eb_ctV (pc := 1316) (As := [.int (eb_X h3 (x3 + 1).toNatClampNeg), .int (eb_X h3 (x3 + 2).toNatClampNeg)]) (rest := [.int y4]) rfl (by decide) rfl ka2 (by decide) rfl (Nat.le_of_ble_eq_true rfl) ?_
  refine eb_Ct.mono w ?_
  rintro r h8 ⟨y9, rfl, ko10, w⟩
  change eb_Sn _ _ _ 1319 _ [.int y9, .int y4] _ _
  refine eb_icmp_eq (pc := 1319) (tgt := 1672) rfl (by decide) (fun c11 => ?_) (fun c11 => ?_)
  · replace w := w.1 c11
    exact eb_pick [0, 1, 2, 3] rfl w
  · replace w := w.2 c11
    refine eb_iconst (pc := 1322) (n := 0) (v := 0) rfl rfl ?_
    exact eb_ireturn (pc := 1323) rfl rfl (by decide) w
set_option maxRecDepth 200000 in
theorem b_L_law_1324 {d : Nat} {h0 h : eb_H} {Q : Option Value → eb_H → Prop} (a1 : Nat) (a2 : Nat) (x3 : Int32) (ka1 : eb_kd a1 = 10) (ka2 : eb_kd a2 = 11) (ko : eb_KO h) (w : (vp_in (x3 + 1) (eb_XL h)) ∧ (vp_in (x3 + 2) (eb_XL h)) ∧ (vp_in (x3 + 3) (eb_XL h)) ∧ (vp_in (x3 + 4) (eb_XL h)) ∧ eb_Ct d 130 [.ref a1, .int (eb_X h (x3 + 1).toNatClampNeg), .int (eb_X h (x3 + 2).toNatClampNeg), .int (eb_X h (x3 + 3).toNatClampNeg), .int (eb_X h (x3 + 4).toNatClampNeg)] h (fun r h5 => ∃ y6, r = some (.int y6) ∧ eb_KO h5 ∧ (vp_in (x3 + 1) (eb_XL h5)) ∧ (vp_in (x3 + 2) (eb_XL h5)) ∧ (vp_in (x3 + 3) (eb_XL h5)) ∧ (vp_in (x3 + 4) (eb_XL h5)) ∧ eb_Ct d 273 [.ref a2, .int (eb_X h5 (x3 + 1).toNatClampNeg), .int (eb_X h5 (x3 + 2).toNatClampNeg), .int (eb_X h5 (x3 + 3).toNatClampNeg), .int (eb_X h5 (x3 + 4).toNatClampNeg)] h5 (fun r h12 => ∃ y13, r = some (.int y13) ∧ eb_KO h12 ∧ ((y6 = y13 → eb_Sn (d + 1) m_L_law h0 1672 [(0, .ref 20), (1, .ref a1), (2, .ref a2), (3, .int x3)] [] h12 Q) ∧ (¬ (y6 = y13) → Q (some (.int 0)) h12))))) : eb_Sn (d + 1) m_L_law h0 1324 [(0, .ref 20), (1, .ref a1), (2, .ref a2), (3, .int x3)] [] h Q := by
  refine eb_aload_n (pc := 1324) (n := 1) (i := 1) rfl rfl rfl ?_
  refine eb_aload_n (pc := 1325) (n := 0) (i := 0) rfl rfl rfl ?_
  refine eb_iload_n (pc := 1326) (n := 3) (i := 3) rfl rfl rfl ?_
  refine eb_iconst (pc := 1327) (n := 1) (v := 1) rfl rfl ?_
  refine eb_iadd (pc := 1328) rfl ?_
  obtain ⟨c1, w⟩ := w
  refine eb_sload (pc := 1329) rfl c1 ?_
  refine eb_aload_n (pc := 1330) (n := 0) (i := 0) rfl rfl rfl ?_
  refine eb_iload_n (pc := 1331) (n := 3) (i := 3) rfl rfl rfl ?_
  refine eb_iconst (pc := 1332) (n := 2) (v := 2) rfl rfl ?_
  refine eb_iadd (pc := 1333) rfl ?_
  obtain ⟨c2, w⟩ := w
  refine eb_sload (pc := 1334) rfl c2 ?_
  refine eb_aload_n (pc := 1335) (n := 0) (i := 0) rfl rfl rfl ?_
  refine eb_iload_n (pc := 1336) (n := 3) (i := 3) rfl rfl rfl ?_
  refine eb_iconst (pc := 1337) (n := 3) (v := 3) rfl rfl ?_
  refine eb_iadd (pc := 1338) rfl ?_
  obtain ⟨c3, w⟩ := w
  refine eb_sload (pc := 1339) rfl c3 ?_
  refine eb_aload_n (pc := 1340) (n := 0) (i := 0) rfl rfl rfl ?_
  refine eb_iload_n (pc := 1341) (n := 3) (i := 3) rfl rfl rfl ?_
  refine eb_iconst (pc := 1342) (n := 4) (v := 4) rfl rfl ?_
  refine eb_iadd (pc := 1343) rfl ?_
  obtain ⟨c4, w⟩ := w
  refine eb_sload (pc := 1344) rfl c4 ?_
  refine eb_ctV (pc := 1345) (As := [.int (eb_X h (x3 + 1).toNatClampNeg), .int (eb_X h (x3 + 2).toNatClampNeg), .int (eb_X h (x3 + 3).toNatClampNeg), .int (eb_X h (x3 + 4).toNatClampNeg)]) (rest := []) rfl (by decide) rfl ka1 (by decide) rfl (Nat.le_of_ble_eq_true rfl) ?_
  refine eb_Ct.mono w ?_
  rintro r h5 ⟨y6, rfl, ko7, w⟩
  change eb_Sn _ _ _ 1348 _ [.int y6] _ _
  refine eb_aload_n (pc := 1348) (n := 2) (i := 2) rfl rfl rfl ?_
  refine eb_aload_n (pc := 1349) (n := 0) (i := 0) rfl rfl rfl ?_
  refine eb_iload_n (pc := 1350) (n := 3) (i := 3) rfl rfl rfl ?_
  refine eb_iconst (pc := 1351) (n := 1) (v := 1) rfl rfl ?_
  refine eb_iadd (pc := 1352) rfl ?_
  obtain ⟨c8, w⟩ := w
  refine eb_sload (pc := 1353) rfl c8 ?_
  refine eb_aload_n (pc := 1354) (n := 0) (i := 0) rfl rfl rfl ?_
  refine eb_iload_n (pc := 1355) (n := 3) (i := 3) rfl rfl rfl ?_
  refine eb_iconst (pc := 1356) (n := 2) (v := 2) rfl rfl ?_
  refine eb_iadd (pc := 1357) rfl ?_
  obtain ⟨c9, w⟩ := w
  refine eb_sload (pc := 1358) rfl c9 ?_
  refine eb_aload_n (pc := 1359) (n := 0) (i := 0) rfl rfl rfl ?_
  refine eb_iload_n (pc := 1360) (n := 3) (i := 3) rfl rfl rfl ?_
  refine eb_iconst (pc := 1361) (n := 3) (v := 3) rfl rfl ?_
  refine eb_iadd (pc := 1362) rfl ?_
  obtain ⟨c10, w⟩ := w
  refine eb_sload (pc := 1363) rfl c10 ?_
  refine eb_aload_n (pc := 1364) (n := 0) (i := 0) rfl rfl rfl ?_
  refine eb_iload_n (pc := 1365) (n := 3) (i := 3) rfl rfl rfl ?_
  refine eb_iconst (pc := 1366) (n := 4) (v := 4) rfl rfl ?_
  refine eb_iadd (pc := 1367) rfl ?_
  obtain ⟨c11, w⟩ := w
  refine eb_sload (pc := 1368) rfl c11 ?_
  refine eb_ctV (pc := 1369) (As := [.int (eb_X h5 (x3 + 1).toNatClampNeg), .int (eb_X h5 (x3 + 2).toNatClampNeg), .int (eb_X h5 (x3 + 3).toNatClampNeg), .int (eb_X h5 (x3 + 4).toNatClampNeg)]) (rest := [.int y6]) rfl (by decide) rfl ka2 (by decide) rfl (Nat.le_of_ble_eq_true rfl) ?_
  refine eb_Ct.mono w ?_
  rintro r h12 ⟨y13, rfl, ko14, w⟩
  change eb_Sn _ _ _ 1372 _ [.int y13, .int y6] _ _
  refine eb_icmp_eq (pc := 1372) (tgt := 1672) rfl (by decide) (fun c15 => ?_) (fun c15 => ?_)
  · replace w := w.1 c15
    exact eb_pick [0, 1, 2, 3] rfl w
  · replace w := w.2 c15
    refine eb_iconst (pc := 1375) (n := 0) (v := 0) rfl rfl ?_
    exact eb_ireturn (pc := 1376) rfl rfl (by decide) w
set_option maxRecDepth 200000 in
theorem b_L_law_1377 {d : Nat} {h0 h : eb_H} {Q : Option Value → eb_H → Prop} (a1 : Nat) (a2 : Nat) (x3 : Int32) (ka1 : eb_kd a1 = 10) (ka2 : eb_kd a2 = 11) (ko : eb_KO h) (w : (vp_in (x3 + 1) (eb_XL h)) ∧ (vp_in (x3 + 2) (eb_XL h)) ∧ eb_Ct d 131 [.ref a1, .int (eb_X h (x3 + 1).toNatClampNeg), .int (eb_X h (x3 + 2).toNatClampNeg)] h (fun r h3 => ∃ y4, r = some (.int y4) ∧ eb_KO h3 ∧ (vp_in (x3 + 1) (eb_XL h3)) ∧ (vp_in (x3 + 2) (eb_XL h3)) ∧ eb_Ct d 274 [.ref a2, .int (eb_X h3 (x3 + 1).toNatClampNeg), .int (eb_X h3 (x3 + 2).toNatClampNeg)] h3 (fun r h8 => ∃ y9, r = some (.int y9) ∧ eb_KO h8 ∧ ((y4 = y9 → eb_Sn (d + 1) m_L_law h0 1672 [(0, .ref 20), (1, .ref a1), (2, .ref a2), (3, .int x3)] [] h8 Q) ∧ (¬ (y4 = y9) → Q (some (.int 0)) h8))))) : eb_Sn (d + 1) m_L_law h0 1377 [(0, .ref 20), (1, .ref a1), (2, .ref a2), (3, .int x3)] [] h Q := by
  refine eb_aload_n (pc := 1377) (n := 1) (i := 1) rfl rfl rfl ?_
  refine eb_aload_n (pc := 1378) (n := 0) (i := 0) rfl rfl rfl ?_
  refine eb_iload_n (pc := 1379) (n := 3) (i := 3) rfl rfl rfl ?_
  refine eb_iconst (pc := 1380) (n := 1) (v := 1) rfl rfl ?_
  refine eb_iadd (pc := 1381) rfl ?_
  obtain ⟨c1, w⟩ := w
  refine eb_sload (pc := 1382) rfl c1 ?_
  refine eb_aload_n (pc := 1383) (n := 0) (i := 0) rfl rfl rfl ?_
  refine eb_iload_n (pc := 1384) (n := 3) (i := 3) rfl rfl rfl ?_
  refine eb_iconst (pc := 1385) (n := 2) (v := 2) rfl rfl ?_
  refine eb_iadd (pc := 1386) rfl ?_
  obtain ⟨c2, w⟩ := w
  refine eb_sload (pc := 1387) rfl c2 ?_
  refine eb_ctV (pc := 1388) (As := [.int (eb_X h (x3 + 1).toNatClampNeg), .int (eb_X h (x3 + 2).toNatClampNeg)]) (rest := []) rfl (by decide) rfl ka1 (by decide) rfl (Nat.le_of_ble_eq_true rfl) ?_
  refine eb_Ct.mono w ?_
  rintro r h3 ⟨y4, rfl, ko5, w⟩
  change eb_Sn _ _ _ 1391 _ [.int y4] _ _
  refine eb_aload_n (pc := 1391) (n := 2) (i := 2) rfl rfl rfl ?_
  refine eb_aload_n (pc := 1392) (n := 0) (i := 0) rfl rfl rfl ?_
  refine eb_iload_n (pc := 1393) (n := 3) (i := 3) rfl rfl rfl ?_
  refine eb_iconst (pc := 1394) (n := 1) (v := 1) rfl rfl ?_
  refine eb_iadd (pc := 1395) rfl ?_
  obtain ⟨c6, w⟩ := w
  refine eb_sload (pc := 1396) rfl c6 ?_
  refine eb_aload_n (pc := 1397) (n := 0) (i := 0) rfl rfl rfl ?_
  refine eb_iload_n (pc := 1398) (n := 3) (i := 3) rfl rfl rfl ?_
  refine eb_iconst (pc := 1399) (n := 2) (v := 2) rfl rfl ?_
  refine eb_iadd (pc := 1400) rfl ?_
  obtain ⟨c7, w⟩ := w
  refine eb_sload (pc := 1401) rfl c7 ?_
  refine eb_ctV (pc := 1402) (As := [.int (eb_X h3 (x3 + 1).toNatClampNeg), .int (eb_X h3 (x3 + 2).toNatClampNeg)]) (rest := [.int y4]) rfl (by decide) rfl ka2 (by decide) rfl (Nat.le_of_ble_eq_true rfl) ?_
  refine eb_Ct.mono w ?_
  rintro r h8 ⟨y9, rfl, ko10, w⟩
  change eb_Sn _ _ _ 1405 _ [.int y9, .int y4] _ _
  refine eb_icmp_eq (pc := 1405) (tgt := 1672) rfl (by decide) (fun c11 => ?_) (fun c11 => ?_)
  · replace w := w.1 c11
    exact eb_pick [0, 1, 2, 3] rfl w
  · replace w := w.2 c11
    refine eb_iconst (pc := 1408) (n := 0) (v := 0) rfl rfl ?_
    exact eb_ireturn (pc := 1409) rfl rfl (by decide) w
set_option maxRecDepth 200000 in
theorem b_L_law_1410 {d : Nat} {h0 h : eb_H} {Q : Option Value → eb_H → Prop} (a1 : Nat) (a2 : Nat) (x3 : Int32) (ka1 : eb_kd a1 = 10) (ka2 : eb_kd a2 = 11) (ko : eb_KO h) (w : (vp_in (x3 + 1) (eb_XL h)) ∧ eb_Ct d 132 [.ref a1, .int (eb_X h (x3 + 1).toNatClampNeg)] h (fun r h2 => ∃ y3, r = some (.int y3) ∧ eb_KO h2 ∧ (vp_in (x3 + 1) (eb_XL h2)) ∧ eb_Ct d 275 [.ref a2, .int (eb_X h2 (x3 + 1).toNatClampNeg)] h2 (fun r h6 => ∃ y7, r = some (.int y7) ∧ eb_KO h6 ∧ ((y3 = y7 → eb_Sn (d + 1) m_L_law h0 1672 [(0, .ref 20), (1, .ref a1), (2, .ref a2), (3, .int x3)] [] h6 Q) ∧ (¬ (y3 = y7) → Q (some (.int 0)) h6))))) : eb_Sn (d + 1) m_L_law h0 1410 [(0, .ref 20), (1, .ref a1), (2, .ref a2), (3, .int x3)] [] h Q := by
  refine eb_aload_n (pc := 1410) (n := 1) (i := 1) rfl rfl rfl ?_
  refine eb_aload_n (pc := 1411) (n := 0) (i := 0) rfl rfl rfl ?_
  refine eb_iload_n (pc := 1412) (n := 3) (i := 3) rfl rfl rfl ?_
  refine eb_iconst (pc := 1413) (n := 1) (v := 1) rfl rfl ?_
  refine eb_iadd (pc := 1414) rfl ?_
  obtain ⟨c1, w⟩ := w
  refine eb_sload (pc := 1415) rfl c1 ?_
  refine eb_ctV (pc := 1416) (As := [.int (eb_X h (x3 + 1).toNatClampNeg)]) (rest := []) rfl (by decide) rfl ka1 (by decide) rfl (Nat.le_of_ble_eq_true rfl) ?_
  refine eb_Ct.mono w ?_
  rintro r h2 ⟨y3, rfl, ko4, w⟩
  change eb_Sn _ _ _ 1419 _ [.int y3] _ _
  refine eb_aload_n (pc := 1419) (n := 2) (i := 2) rfl rfl rfl ?_
  refine eb_aload_n (pc := 1420) (n := 0) (i := 0) rfl rfl rfl ?_
  refine eb_iload_n (pc := 1421) (n := 3) (i := 3) rfl rfl rfl ?_
  refine eb_iconst (pc := 1422) (n := 1) (v := 1) rfl rfl ?_
  refine eb_iadd (pc := 1423) rfl ?_
  obtain ⟨c5, w⟩ := w
  refine eb_sload (pc := 1424) rfl c5 ?_
  refine eb_ctV (pc := 1425) (As := [.int (eb_X h2 (x3 + 1).toNatClampNeg)]) (rest := [.int y3]) rfl (by decide) rfl ka2 (by decide) rfl (Nat.le_of_ble_eq_true rfl) ?_
  refine eb_Ct.mono w ?_
  rintro r h6 ⟨y7, rfl, ko8, w⟩
  change eb_Sn _ _ _ 1428 _ [.int y7, .int y3] _ _
  refine eb_icmp_eq (pc := 1428) (tgt := 1672) rfl (by decide) (fun c9 => ?_) (fun c9 => ?_)
  · replace w := w.1 c9
    exact eb_pick [0, 1, 2, 3] rfl w
  · replace w := w.2 c9
    refine eb_iconst (pc := 1431) (n := 0) (v := 0) rfl rfl ?_
    exact eb_ireturn (pc := 1432) rfl rfl (by decide) w
set_option maxRecDepth 200000 in
theorem b_L_law_1433 {d : Nat} {h0 h : eb_H} {Q : Option Value → eb_H → Prop} (a1 : Nat) (a2 : Nat) (x3 : Int32) (ka1 : eb_kd a1 = 10) (ka2 : eb_kd a2 = 11) (ko : eb_KO h) (w : (vp_in (x3 + 1) (eb_XL h)) ∧ (vp_in (x3 + 2) (eb_XL h)) ∧ (vp_in (x3 + 3) (eb_XL h)) ∧ eb_Ct d 133 [.ref a1, .int (eb_X h (x3 + 1).toNatClampNeg), .int (eb_X h (x3 + 2).toNatClampNeg), .int (eb_X h (x3 + 3).toNatClampNeg)] h (fun r h4 => ∃ y5, r = some (.int y5) ∧ eb_KO h4 ∧ (vp_in (x3 + 1) (eb_XL h4)) ∧ (vp_in (x3 + 2) (eb_XL h4)) ∧ (vp_in (x3 + 3) (eb_XL h4)) ∧ eb_Ct d 277 [.ref a2, .int (eb_X h4 (x3 + 1).toNatClampNeg), .int (eb_X h4 (x3 + 2).toNatClampNeg), .int (eb_X h4 (x3 + 3).toNatClampNeg)] h4 (fun r h10 => ∃ y11, r = some (.int y11) ∧ eb_KO h10 ∧ ((y5 = y11 → eb_Sn (d + 1) m_L_law h0 1672 [(0, .ref 20), (1, .ref a1), (2, .ref a2), (3, .int x3)] [] h10 Q) ∧ (¬ (y5 = y11) → Q (some (.int 0)) h10))))) : eb_Sn (d + 1) m_L_law h0 1433 [(0, .ref 20), (1, .ref a1), (2, .ref a2), (3, .int x3)] [] h Q := by
  refine eb_aload_n (pc := 1433) (n := 1) (i := 1) rfl rfl rfl ?_
  refine eb_aload_n (pc := 1434) (n := 0) (i := 0) rfl rfl rfl ?_
  refine eb_iload_n (pc := 1435) (n := 3) (i := 3) rfl rfl rfl ?_
  refine eb_iconst (pc := 1436) (n := 1) (v := 1) rfl rfl ?_
  refine eb_iadd (pc := 1437) rfl ?_
  obtain ⟨c1, w⟩ := w
  refine eb_sload (pc := 1438) rfl c1 ?_
  refine eb_aload_n (pc := 1439) (n := 0) (i := 0) rfl rfl rfl ?_
  refine eb_iload_n (pc := 1440) (n := 3) (i := 3) rfl rfl rfl ?_
  refine eb_iconst (pc := 1441) (n := 2) (v := 2) rfl rfl ?_
  refine eb_iadd (pc := 1442) rfl ?_
  obtain ⟨c2, w⟩ := w
  refine eb_sload (pc := 1443) rfl c2 ?_
  refine eb_aload_n (pc := 1444) (n := 0) (i := 0) rfl rfl rfl ?_
  refine eb_iload_n (pc := 1445) (n := 3) (i := 3) rfl rfl rfl ?_
  refine eb_iconst (pc := 1446) (n := 3) (v := 3) rfl rfl ?_
  refine eb_iadd (pc := 1447) rfl ?_
  obtain ⟨c3, w⟩ := w
  refine eb_sload (pc := 1448) rfl c3 ?_
  refine eb_ctV (pc := 1449) (As := [.int (eb_X h (x3 + 1).toNatClampNeg), .int (eb_X h (x3 + 2).toNatClampNeg), .int (eb_X h (x3 + 3).toNatClampNeg)]) (rest := []) rfl (by decide) rfl ka1 (by decide) rfl (Nat.le_of_ble_eq_true rfl) ?_
  refine eb_Ct.mono w ?_
  rintro r h4 ⟨y5, rfl, ko6, w⟩
  change eb_Sn _ _ _ 1452 _ [.int y5] _ _
  refine eb_aload_n (pc := 1452) (n := 2) (i := 2) rfl rfl rfl ?_
  refine eb_aload_n (pc := 1453) (n := 0) (i := 0) rfl rfl rfl ?_
  refine eb_iload_n (pc := 1454) (n := 3) (i := 3) rfl rfl rfl ?_
  refine eb_iconst (pc := 1455) (n := 1) (v := 1) rfl rfl ?_
  refine eb_iadd (pc := 1456) rfl ?_
  obtain ⟨c7, w⟩ := w
  refine eb_sload (pc := 1457) rfl c7 ?_
  refine eb_aload_n (pc := 1458) (n := 0) (i := 0) rfl rfl rfl ?_
  refine eb_iload_n (pc := 1459) (n := 3) (i := 3) rfl rfl rfl ?_
  refine eb_iconst (pc := 1460) (n := 2) (v := 2) rfl rfl ?_
  refine eb_iadd (pc := 1461) rfl ?_
  obtain ⟨c8, w⟩ := w
  refine eb_sload (pc := 1462) rfl c8 ?_
  refine eb_aload_n (pc := 1463) (n := 0) (i := 0) rfl rfl rfl ?_
  refine eb_iload_n (pc := 1464) (n := 3) (i := 3) rfl rfl rfl ?_
  refine eb_iconst (pc := 1465) (n := 3) (v := 3) rfl rfl ?_
  refine eb_iadd (pc := 1466) rfl ?_
  obtain ⟨c9, w⟩ := w
  refine eb_sload (pc := 1467) rfl c9 ?_
  refine eb_ctV (pc := 1468) (As := [.int (eb_X h4 (x3 + 1).toNatClampNeg), .int (eb_X h4 (x3 + 2).toNatClampNeg), .int (eb_X h4 (x3 + 3).toNatClampNeg)]) (rest := [.int y5]) rfl (by decide) rfl ka2 (by decide) rfl (Nat.le_of_ble_eq_true rfl) ?_
  refine eb_Ct.mono w ?_
  rintro r h10 ⟨y11, rfl, ko12, w⟩
  change eb_Sn _ _ _ 1471 _ [.int y11, .int y5] _ _
  refine eb_icmp_eq (pc := 1471) (tgt := 1672) rfl (by decide) (fun c13 => ?_) (fun c13 => ?_)
  · replace w := w.1 c13
    exact eb_pick [0, 1, 2, 3] rfl w
  · replace w := w.2 c13
    refine eb_iconst (pc := 1474) (n := 0) (v := 0) rfl rfl ?_
    exact eb_ireturn (pc := 1475) rfl rfl (by decide) w
set_option maxRecDepth 200000 in
theorem b_L_law_1476 {d : Nat} {h0 h : eb_H} {Q : Option Value → eb_H → Prop} (a1 : Nat) (a2 : Nat) (x3 : Int32) (ka1 : eb_kd a1 = 10) (ka2 : eb_kd a2 = 11) (ko : eb_KO h) (w : (vp_in (x3 + 1) (eb_XL h)) ∧ (vp_in (x3 + 2) (eb_XL h)) ∧ (vp_in (x3 + 3) (eb_XL h)) ∧ (vp_in (x3 + 4) (eb_XL h)) ∧ eb_Ct d 134 [.ref a1, .int (eb_X h (x3 + 1).toNatClampNeg), .int (eb_X h (x3 + 2).toNatClampNeg), .long ((((eb_X h (x3 + 3).toNatClampNeg).toInt64) <<< ((32 : Int32).toInt64 &&& 63)) ||| (((eb_X h (x3 + 4).toNatClampNeg).toInt64) &&& 4294967295))] h (fun r h5 => ∃ y6, r = some (.long y6) ∧ eb_KO h5 ∧ (vp_in (x3 + 1) (eb_XL h5)) ∧ (vp_in (x3 + 2) (eb_XL h5)) ∧ (vp_in (x3 + 3) (eb_XL h5)) ∧ (vp_in (x3 + 4) (eb_XL h5)) ∧ eb_Ct d 278 [.ref a2, .int (eb_X h5 (x3 + 1).toNatClampNeg), .int (eb_X h5 (x3 + 2).toNatClampNeg), .long ((((eb_X h5 (x3 + 3).toNatClampNeg).toInt64) <<< ((32 : Int32).toInt64 &&& 63)) ||| (((eb_X h5 (x3 + 4).toNatClampNeg).toInt64) &&& 4294967295))] h5 (fun r h12 => ∃ y13, r = some (.long y13) ∧ eb_KO h12 ∧ ((y6 = y13 → eb_Sn (d + 1) m_L_law h0 1672 [(0, .ref 20), (1, .ref a1), (2, .ref a2), (3, .int x3)] [] h12 Q) ∧ (¬ (y6 = y13) → Q (some (.int 0)) h12))))) : eb_Sn (d + 1) m_L_law h0 1476 [(0, .ref 20), (1, .ref a1), (2, .ref a2), (3, .int x3)] [] h Q := by
  refine eb_aload_n (pc := 1476) (n := 1) (i := 1) rfl rfl rfl ?_
  refine eb_aload_n (pc := 1477) (n := 0) (i := 0) rfl rfl rfl ?_
  refine eb_iload_n (pc := 1478) (n := 3) (i := 3) rfl rfl rfl ?_
  refine eb_iconst (pc := 1479) (n := 1) (v := 1) rfl rfl ?_
  refine eb_iadd (pc := 1480) rfl ?_
  obtain ⟨c1, w⟩ := w
  refine eb_sload (pc := 1481) rfl c1 ?_
  refine eb_aload_n (pc := 1482) (n := 0) (i := 0) rfl rfl rfl ?_
  refine eb_iload_n (pc := 1483) (n := 3) (i := 3) rfl rfl rfl ?_
  refine eb_iconst (pc := 1484) (n := 2) (v := 2) rfl rfl ?_
  refine eb_iadd (pc := 1485) rfl ?_
  obtain ⟨c2, w⟩ := w
  refine eb_sload (pc := 1486) rfl c2 ?_
  refine eb_aload_n (pc := 1487) (n := 0) (i := 0) rfl rfl rfl ?_
  refine eb_iload_n (pc := 1488) (n := 3) (i := 3) rfl rfl rfl ?_
  refine eb_iconst (pc := 1489) (n := 3) (v := 3) rfl rfl ?_
  refine eb_iadd (pc := 1490) rfl ?_
  obtain ⟨c3, w⟩ := w
  refine eb_sload (pc := 1491) rfl c3 ?_
  refine eb_i2l (pc := 1492) rfl ?_
  refine eb_bipush (pc := 1493) (n := 32) (v := 32) rfl rfl ?_
  refine eb_lshl (pc := 1495) rfl ?_
  refine eb_aload_n (pc := 1496) (n := 0) (i := 0) rfl rfl rfl ?_
  refine eb_iload_n (pc := 1497) (n := 3) (i := 3) rfl rfl rfl ?_
  refine eb_iconst (pc := 1498) (n := 4) (v := 4) rfl rfl ?_
  refine eb_iadd (pc := 1499) rfl ?_
  obtain ⟨c4, w⟩ := w
  refine eb_sload (pc := 1500) rfl c4 ?_
  refine eb_i2l (pc := 1501) rfl ?_
  refine eb_ldc2 (pc := 1502) (a := 4294967295) (v := 4294967295) rfl (by decide) ?_
  refine eb_land (pc := 1505) rfl ?_
  refine eb_lor (pc := 1506) rfl ?_
  refine eb_ctV (pc := 1507) (As := [.int (eb_X h (x3 + 1).toNatClampNeg), .int (eb_X h (x3 + 2).toNatClampNeg), .long ((((eb_X h (x3 + 3).toNatClampNeg).toInt64) <<< ((32 : Int32).toInt64 &&& 63)) ||| (((eb_X h (x3 + 4).toNatClampNeg).toInt64) &&& 4294967295))]) (rest := []) rfl (by decide) rfl ka1 (by decide) rfl (Nat.le_of_ble_eq_true rfl) ?_
  refine eb_Ct.mono w ?_
  rintro r h5 ⟨y6, rfl, ko7, w⟩
  change eb_Sn _ _ _ 1510 _ [.long y6] _ _
  refine eb_aload_n (pc := 1510) (n := 2) (i := 2) rfl rfl rfl ?_
  refine eb_aload_n (pc := 1511) (n := 0) (i := 0) rfl rfl rfl ?_
  refine eb_iload_n (pc := 1512) (n := 3) (i := 3) rfl rfl rfl ?_
  refine eb_iconst (pc := 1513) (n := 1) (v := 1) rfl rfl ?_
  refine eb_iadd (pc := 1514) rfl ?_
  obtain ⟨c8, w⟩ := w
  refine eb_sload (pc := 1515) rfl c8 ?_
  refine eb_aload_n (pc := 1516) (n := 0) (i := 0) rfl rfl rfl ?_
  refine eb_iload_n (pc := 1517) (n := 3) (i := 3) rfl rfl rfl ?_
  refine eb_iconst (pc := 1518) (n := 2) (v := 2) rfl rfl ?_
  refine eb_iadd (pc := 1519) rfl ?_
  obtain ⟨c9, w⟩ := w
  refine eb_sload (pc := 1520) rfl c9 ?_
  refine eb_aload_n (pc := 1521) (n := 0) (i := 0) rfl rfl rfl ?_
  refine eb_iload_n (pc := 1522) (n := 3) (i := 3) rfl rfl rfl ?_
  refine eb_iconst (pc := 1523) (n := 3) (v := 3) rfl rfl ?_
  refine eb_iadd (pc := 1524) rfl ?_
  obtain ⟨c10, w⟩ := w
  refine eb_sload (pc := 1525) rfl c10 ?_
  refine eb_i2l (pc := 1526) rfl ?_
  refine eb_bipush (pc := 1527) (n := 32) (v := 32) rfl rfl ?_
  refine eb_lshl (pc := 1529) rfl ?_
  refine eb_aload_n (pc := 1530) (n := 0) (i := 0) rfl rfl rfl ?_
  refine eb_iload_n (pc := 1531) (n := 3) (i := 3) rfl rfl rfl ?_
  refine eb_iconst (pc := 1532) (n := 4) (v := 4) rfl rfl ?_
  refine eb_iadd (pc := 1533) rfl ?_
  obtain ⟨c11, w⟩ := w
  refine eb_sload (pc := 1534) rfl c11 ?_
  refine eb_i2l (pc := 1535) rfl ?_
  refine eb_ldc2 (pc := 1536) (a := 4294967295) (v := 4294967295) rfl (by decide) ?_
  refine eb_land (pc := 1539) rfl ?_
  refine eb_lor (pc := 1540) rfl ?_
  refine eb_ctV (pc := 1541) (As := [.int (eb_X h5 (x3 + 1).toNatClampNeg), .int (eb_X h5 (x3 + 2).toNatClampNeg), .long ((((eb_X h5 (x3 + 3).toNatClampNeg).toInt64) <<< ((32 : Int32).toInt64 &&& 63)) ||| (((eb_X h5 (x3 + 4).toNatClampNeg).toInt64) &&& 4294967295))]) (rest := [.long y6]) rfl (by decide) rfl ka2 (by decide) rfl (Nat.le_of_ble_eq_true rfl) ?_
  refine eb_Ct.mono w ?_
  rintro r h12 ⟨y13, rfl, ko14, w⟩
  change eb_Sn _ _ _ 1544 _ [.long y13, .long y6] _ _
  refine eb_lcmp (pc := 1544) rfl ?_
  refine eb_if_eq (pc := 1545) (tgt := 1672) rfl (by decide) (fun c15 => ?_) (fun c15 => ?_)
  · replace c15 := eb_lc_eq.mp c15
    replace w := w.1 c15
    exact eb_pick [0, 1, 2, 3] rfl w
  · replace c15 := (fun hh => mt eb_lc_eq.mpr hh) c15
    replace w := w.2 c15
    refine eb_iconst (pc := 1548) (n := 0) (v := 0) rfl rfl ?_
    exact eb_ireturn (pc := 1549) rfl rfl (by decide) w
set_option maxRecDepth 200000 in
theorem b_L_law_1550 {d : Nat} {h0 h : eb_H} {Q : Option Value → eb_H → Prop} (a1 : Nat) (a2 : Nat) (x3 : Int32) (ka1 : eb_kd a1 = 10) (ka2 : eb_kd a2 = 11) (ko : eb_KO h) (w : (vp_in (x3 + 1) (eb_XL h)) ∧ (vp_in (x3 + 2) (eb_XL h)) ∧ (vp_in (x3 + 3) (eb_XL h)) ∧ (vp_in (x3 + 4) (eb_XL h)) ∧ eb_Ct d 135 [.ref a1, .int (eb_X h (x3 + 1).toNatClampNeg), .int (eb_X h (x3 + 2).toNatClampNeg), .int (eb_X h (x3 + 3).toNatClampNeg), .int (eb_X h (x3 + 4).toNatClampNeg)] h (fun r h5 => ∃ y6, r = some (.int y6) ∧ eb_KO h5 ∧ (vp_in (x3 + 1) (eb_XL h5)) ∧ (vp_in (x3 + 2) (eb_XL h5)) ∧ (vp_in (x3 + 3) (eb_XL h5)) ∧ (vp_in (x3 + 4) (eb_XL h5)) ∧ eb_Ct d 279 [.ref a2, .int (eb_X h5 (x3 + 1).toNatClampNeg), .int (eb_X h5 (x3 + 2).toNatClampNeg), .int (eb_X h5 (x3 + 3).toNatClampNeg), .int (eb_X h5 (x3 + 4).toNatClampNeg)] h5 (fun r h12 => ∃ y13, r = some (.int y13) ∧ eb_KO h12 ∧ ((y6 = y13 → eb_Sn (d + 1) m_L_law h0 1672 [(0, .ref 20), (1, .ref a1), (2, .ref a2), (3, .int x3)] [] h12 Q) ∧ (¬ (y6 = y13) → Q (some (.int 0)) h12))))) : eb_Sn (d + 1) m_L_law h0 1550 [(0, .ref 20), (1, .ref a1), (2, .ref a2), (3, .int x3)] [] h Q := by
  refine eb_aload_n (pc := 1550) (n := 1) (i := 1) rfl rfl rfl ?_
  refine eb_aload_n (pc := 1551) (n := 0) (i := 0) rfl rfl rfl ?_
  refine eb_iload_n (pc := 1552) (n := 3) (i := 3) rfl rfl rfl ?_
  refine eb_iconst (pc := 1553) (n := 1) (v := 1) rfl rfl ?_
  refine eb_iadd (pc := 1554) rfl ?_
  obtain ⟨c1, w⟩ := w
  refine eb_sload (pc := 1555) rfl c1 ?_
  refine eb_aload_n (pc := 1556) (n := 0) (i := 0) rfl rfl rfl ?_
  refine eb_iload_n (pc := 1557) (n := 3) (i := 3) rfl rfl rfl ?_
  refine eb_iconst (pc := 1558) (n := 2) (v := 2) rfl rfl ?_
  refine eb_iadd (pc := 1559) rfl ?_
  obtain ⟨c2, w⟩ := w
  refine eb_sload (pc := 1560) rfl c2 ?_
  refine eb_aload_n (pc := 1561) (n := 0) (i := 0) rfl rfl rfl ?_
  refine eb_iload_n (pc := 1562) (n := 3) (i := 3) rfl rfl rfl ?_
  refine eb_iconst (pc := 1563) (n := 3) (v := 3) rfl rfl ?_
  refine eb_iadd (pc := 1564) rfl ?_
  obtain ⟨c3, w⟩ := w
  refine eb_sload (pc := 1565) rfl c3 ?_
  refine eb_aload_n (pc := 1566) (n := 0) (i := 0) rfl rfl rfl ?_
  refine eb_iload_n (pc := 1567) (n := 3) (i := 3) rfl rfl rfl ?_
  refine eb_iconst (pc := 1568) (n := 4) (v := 4) rfl rfl ?_
  refine eb_iadd (pc := 1569) rfl ?_
  obtain ⟨c4, w⟩ := w
  refine eb_sload (pc := 1570) rfl c4 ?_
  refine eb_ctV (pc := 1571) (As := [.int (eb_X h (x3 + 1).toNatClampNeg), .int (eb_X h (x3 + 2).toNatClampNeg), .int (eb_X h (x3 + 3).toNatClampNeg), .int (eb_X h (x3 + 4).toNatClampNeg)]) (rest := []) rfl (by decide) rfl ka1 (by decide) rfl (Nat.le_of_ble_eq_true rfl) ?_
  refine eb_Ct.mono w ?_
  rintro r h5 ⟨y6, rfl, ko7, w⟩
  change eb_Sn _ _ _ 1574 _ [.int y6] _ _
  refine eb_aload_n (pc := 1574) (n := 2) (i := 2) rfl rfl rfl ?_
  refine eb_aload_n (pc := 1575) (n := 0) (i := 0) rfl rfl rfl ?_
  refine eb_iload_n (pc := 1576) (n := 3) (i := 3) rfl rfl rfl ?_
  refine eb_iconst (pc := 1577) (n := 1) (v := 1) rfl rfl ?_
  refine eb_iadd (pc := 1578) rfl ?_
  obtain ⟨c8, w⟩ := w
  refine eb_sload (pc := 1579) rfl c8 ?_
  refine eb_aload_n (pc := 1580) (n := 0) (i := 0) rfl rfl rfl ?_
  refine eb_iload_n (pc := 1581) (n := 3) (i := 3) rfl rfl rfl ?_
  refine eb_iconst (pc := 1582) (n := 2) (v := 2) rfl rfl ?_
  refine eb_iadd (pc := 1583) rfl ?_
  obtain ⟨c9, w⟩ := w
  refine eb_sload (pc := 1584) rfl c9 ?_
  refine eb_aload_n (pc := 1585) (n := 0) (i := 0) rfl rfl rfl ?_
  refine eb_iload_n (pc := 1586) (n := 3) (i := 3) rfl rfl rfl ?_
  refine eb_iconst (pc := 1587) (n := 3) (v := 3) rfl rfl ?_
  refine eb_iadd (pc := 1588) rfl ?_
  obtain ⟨c10, w⟩ := w
  refine eb_sload (pc := 1589) rfl c10 ?_
  refine eb_aload_n (pc := 1590) (n := 0) (i := 0) rfl rfl rfl ?_
  refine eb_iload_n (pc := 1591) (n := 3) (i := 3) rfl rfl rfl ?_
  refine eb_iconst (pc := 1592) (n := 4) (v := 4) rfl rfl ?_
  refine eb_iadd (pc := 1593) rfl ?_
  obtain ⟨c11, w⟩ := w
  refine eb_sload (pc := 1594) rfl c11 ?_
  refine eb_ctV (pc := 1595) (As := [.int (eb_X h5 (x3 + 1).toNatClampNeg), .int (eb_X h5 (x3 + 2).toNatClampNeg), .int (eb_X h5 (x3 + 3).toNatClampNeg), .int (eb_X h5 (x3 + 4).toNatClampNeg)]) (rest := [.int y6]) rfl (by decide) rfl ka2 (by decide) rfl (Nat.le_of_ble_eq_true rfl) ?_
  refine eb_Ct.mono w ?_
  rintro r h12 ⟨y13, rfl, ko14, w⟩
  change eb_Sn _ _ _ 1598 _ [.int y13, .int y6] _ _
  refine eb_icmp_eq (pc := 1598) (tgt := 1672) rfl (by decide) (fun c15 => ?_) (fun c15 => ?_)
  · replace w := w.1 c15
    exact eb_pick [0, 1, 2, 3] rfl w
  · replace w := w.2 c15
    refine eb_iconst (pc := 1601) (n := 0) (v := 0) rfl rfl ?_
    exact eb_ireturn (pc := 1602) rfl rfl (by decide) w
set_option maxRecDepth 200000 in
theorem b_L_law_1603 {d : Nat} {h0 h : eb_H} {Q : Option Value → eb_H → Prop} (a1 : Nat) (a2 : Nat) (x3 : Int32) (ka1 : eb_kd a1 = 10) (ka2 : eb_kd a2 = 11) (ko : eb_KO h) (w : (vp_in (x3 + 1) (eb_XL h)) ∧ eb_Ct d 136 [.ref a1, .int (eb_X h (x3 + 1).toNatClampNeg)] h (fun r h2 => ∃ y3, r = some (.int y3) ∧ eb_KO h2 ∧ (vp_in (x3 + 1) (eb_XL h2)) ∧ eb_Ct d 280 [.ref a2, .int (eb_X h2 (x3 + 1).toNatClampNeg)] h2 (fun r h6 => ∃ y7, r = some (.int y7) ∧ eb_KO h6 ∧ ((y3 = y7 → eb_Sn (d + 1) m_L_law h0 1672 [(0, .ref 20), (1, .ref a1), (2, .ref a2), (3, .int x3)] [] h6 Q) ∧ (¬ (y3 = y7) → Q (some (.int 0)) h6))))) : eb_Sn (d + 1) m_L_law h0 1603 [(0, .ref 20), (1, .ref a1), (2, .ref a2), (3, .int x3)] [] h Q := by
  refine eb_aload_n (pc := 1603) (n := 1) (i := 1) rfl rfl rfl ?_
  refine eb_aload_n (pc := 1604) (n := 0) (i := 0) rfl rfl rfl ?_
  refine eb_iload_n (pc := 1605) (n := 3) (i := 3) rfl rfl rfl ?_
  refine eb_iconst (pc := 1606) (n := 1) (v := 1) rfl rfl ?_
  refine eb_iadd (pc := 1607) rfl ?_
  obtain ⟨c1, w⟩ := w
  refine eb_sload (pc := 1608) rfl c1 ?_
  refine eb_ctV (pc := 1609) (As := [.int (eb_X h (x3 + 1).toNatClampNeg)]) (rest := []) rfl (by decide) rfl ka1 (by decide) rfl (Nat.le_of_ble_eq_true rfl) ?_
  refine eb_Ct.mono w ?_
  rintro r h2 ⟨y3, rfl, ko4, w⟩
  change eb_Sn _ _ _ 1612 _ [.int y3] _ _
  refine eb_aload_n (pc := 1612) (n := 2) (i := 2) rfl rfl rfl ?_
  refine eb_aload_n (pc := 1613) (n := 0) (i := 0) rfl rfl rfl ?_
  refine eb_iload_n (pc := 1614) (n := 3) (i := 3) rfl rfl rfl ?_
  refine eb_iconst (pc := 1615) (n := 1) (v := 1) rfl rfl ?_
  refine eb_iadd (pc := 1616) rfl ?_
  obtain ⟨c5, w⟩ := w
  refine eb_sload (pc := 1617) rfl c5 ?_
  refine eb_ctV (pc := 1618) (As := [.int (eb_X h2 (x3 + 1).toNatClampNeg)]) (rest := [.int y3]) rfl (by decide) rfl ka2 (by decide) rfl (Nat.le_of_ble_eq_true rfl) ?_
  refine eb_Ct.mono w ?_
  rintro r h6 ⟨y7, rfl, ko8, w⟩
  change eb_Sn _ _ _ 1621 _ [.int y7, .int y3] _ _
  refine eb_icmp_eq (pc := 1621) (tgt := 1672) rfl (by decide) (fun c9 => ?_) (fun c9 => ?_)
  · replace w := w.1 c9
    exact eb_pick [0, 1, 2, 3] rfl w
  · replace w := w.2 c9
    refine eb_iconst (pc := 1624) (n := 0) (v := 0) rfl rfl ?_
    exact eb_ireturn (pc := 1625) rfl rfl (by decide) w
set_option maxRecDepth 200000 in
theorem b_L_law_1626 {d : Nat} {h0 h : eb_H} {Q : Option Value → eb_H → Prop} (a1 : Nat) (a2 : Nat) (x3 : Int32) (ka1 : eb_kd a1 = 10) (ka2 : eb_kd a2 = 11) (ko : eb_KO h) (w : (vp_in (x3 + 1) (eb_XL h)) ∧ eb_Ct d 137 [.ref a1, .int (eb_X h (x3 + 1).toNatClampNeg)] h (fun r h2 => ∃ y3, r = some (.int y3) ∧ eb_KO h2 ∧ (vp_in (x3 + 1) (eb_XL h2)) ∧ eb_Ct d 281 [.ref a2, .int (eb_X h2 (x3 + 1).toNatClampNeg)] h2 (fun r h6 => ∃ y7, r = some (.int y7) ∧ eb_KO h6 ∧ ((y3 = y7 → eb_Sn (d + 1) m_L_law h0 1672 [(0, .ref 20), (1, .ref a1), (2, .ref a2), (3, .int x3)] [] h6 Q) ∧ (¬ (y3 = y7) → Q (some (.int 0)) h6))))) : eb_Sn (d + 1) m_L_law h0 1626 [(0, .ref 20), (1, .ref a1), (2, .ref a2), (3, .int x3)] [] h Q := by
  refine eb_aload_n (pc := 1626) (n := 1) (i := 1) rfl rfl rfl ?_
  refine eb_aload_n (pc := 1627) (n := 0) (i := 0) rfl rfl rfl ?_
  refine eb_iload_n (pc := 1628) (n := 3) (i := 3) rfl rfl rfl ?_
  refine eb_iconst (pc := 1629) (n := 1) (v := 1) rfl rfl ?_
  refine eb_iadd (pc := 1630) rfl ?_
  obtain ⟨c1, w⟩ := w
  refine eb_sload (pc := 1631) rfl c1 ?_
  refine eb_ctV (pc := 1632) (As := [.int (eb_X h (x3 + 1).toNatClampNeg)]) (rest := []) rfl (by decide) rfl ka1 (by decide) rfl (Nat.le_of_ble_eq_true rfl) ?_
  refine eb_Ct.mono w ?_
  rintro r h2 ⟨y3, rfl, ko4, w⟩
  change eb_Sn _ _ _ 1635 _ [.int y3] _ _
  refine eb_aload_n (pc := 1635) (n := 2) (i := 2) rfl rfl rfl ?_
  refine eb_aload_n (pc := 1636) (n := 0) (i := 0) rfl rfl rfl ?_
  refine eb_iload_n (pc := 1637) (n := 3) (i := 3) rfl rfl rfl ?_
  refine eb_iconst (pc := 1638) (n := 1) (v := 1) rfl rfl ?_
  refine eb_iadd (pc := 1639) rfl ?_
  obtain ⟨c5, w⟩ := w
  refine eb_sload (pc := 1640) rfl c5 ?_
  refine eb_ctV (pc := 1641) (As := [.int (eb_X h2 (x3 + 1).toNatClampNeg)]) (rest := [.int y3]) rfl (by decide) rfl ka2 (by decide) rfl (Nat.le_of_ble_eq_true rfl) ?_
  refine eb_Ct.mono w ?_
  rintro r h6 ⟨y7, rfl, ko8, w⟩
  change eb_Sn _ _ _ 1644 _ [.int y7, .int y3] _ _
  refine eb_icmp_eq (pc := 1644) (tgt := 1672) rfl (by decide) (fun c9 => ?_) (fun c9 => ?_)
  · replace w := w.1 c9
    exact eb_pick [0, 1, 2, 3] rfl w
  · replace w := w.2 c9
    refine eb_iconst (pc := 1647) (n := 0) (v := 0) rfl rfl ?_
    exact eb_ireturn (pc := 1648) rfl rfl (by decide) w
set_option maxRecDepth 200000 in
theorem b_L_law_1649 {d : Nat} {h0 h : eb_H} {Q : Option Value → eb_H → Prop} (a1 : Nat) (a2 : Nat) (x3 : Int32) (ka1 : eb_kd a1 = 10) (ka2 : eb_kd a2 = 11) (ko : eb_KO h) (w : (vp_in (x3 + 1) (eb_XL h)) ∧ eb_Ct d 138 [.ref a1, .int (eb_X h (x3 + 1).toNatClampNeg)] h (fun r h2 => ∃ y3, r = some (.int y3) ∧ eb_KO h2 ∧ (vp_in (x3 + 1) (eb_XL h2)) ∧ eb_Ct d 282 [.ref a2, .int (eb_X h2 (x3 + 1).toNatClampNeg)] h2 (fun r h6 => ∃ y7, r = some (.int y7) ∧ eb_KO h6 ∧ ((y3 = y7 → eb_Sn (d + 1) m_L_law h0 1672 [(0, .ref 20), (1, .ref a1), (2, .ref a2), (3, .int x3)] [] h6 Q) ∧ (¬ (y3 = y7) → Q (some (.int 0)) h6))))) : eb_Sn (d + 1) m_L_law h0 1649 [(0, .ref 20), (1, .ref a1), (2, .ref a2), (3, .int x3)] [] h Q := by
  refine eb_aload_n (pc := 1649) (n := 1) (i := 1) rfl rfl rfl ?_
  refine eb_aload_n (pc := 1650) (n := 0) (i := 0) rfl rfl rfl ?_
  refine eb_iload_n (pc := 1651) (n := 3) (i := 3) rfl rfl rfl ?_
  refine eb_iconst (pc := 1652) (n := 1) (v := 1) rfl rfl ?_
  refine eb_iadd (pc := 1653) rfl ?_
  obtain ⟨c1, w⟩ := w
  refine eb_sload (pc := 1654) rfl c1 ?_
  refine eb_ctV (pc := 1655) (As := [.int (eb_X h (x3 + 1).toNatClampNeg)]) (rest := []) rfl (by decide) rfl ka1 (by decide) rfl (Nat.le_of_ble_eq_true rfl) ?_
  refine eb_Ct.mono w ?_
  rintro r h2 ⟨y3, rfl, ko4, w⟩
  change eb_Sn _ _ _ 1658 _ [.int y3] _ _
  refine eb_aload_n (pc := 1658) (n := 2) (i := 2) rfl rfl rfl ?_
  refine eb_aload_n (pc := 1659) (n := 0) (i := 0) rfl rfl rfl ?_
  refine eb_iload_n (pc := 1660) (n := 3) (i := 3) rfl rfl rfl ?_
  refine eb_iconst (pc := 1661) (n := 1) (v := 1) rfl rfl ?_
  refine eb_iadd (pc := 1662) rfl ?_
  obtain ⟨c5, w⟩ := w
  refine eb_sload (pc := 1663) rfl c5 ?_
  refine eb_ctV (pc := 1664) (As := [.int (eb_X h2 (x3 + 1).toNatClampNeg)]) (rest := [.int y3]) rfl (by decide) rfl ka2 (by decide) rfl (Nat.le_of_ble_eq_true rfl) ?_
  refine eb_Ct.mono w ?_
  rintro r h6 ⟨y7, rfl, ko8, w⟩
  change eb_Sn _ _ _ 1667 _ [.int y7, .int y3] _ _
  refine eb_icmp_eq (pc := 1667) (tgt := 1672) rfl (by decide) (fun c9 => ?_) (fun c9 => ?_)
  · replace w := w.1 c9
    exact eb_pick [0, 1, 2, 3] rfl w
  · replace w := w.2 c9
    refine eb_iconst (pc := 1670) (n := 0) (v := 0) rfl rfl ?_
    exact eb_ireturn (pc := 1671) rfl rfl (by decide) w
set_option maxRecDepth 200000 in
theorem b_L_law_1672 {d : Nat} {h0 h : eb_H} {Q : Option Value → eb_H → Prop} (a1 : Nat) (a2 : Nat) (x3 : Int32) (ka1 : eb_kd a1 = 10) (ka2 : eb_kd a2 = 11) (ko : eb_KO h) (w : eb_Sn (d + 1) m_L_law h0 18 [(0, .ref 20), (1, .ref a1), (2, .ref a2), (3, .int (x3 + 6))] [] h Q) : eb_Sn (d + 1) m_L_law h0 1672 [(0, .ref 20), (1, .ref a1), (2, .ref a2), (3, .int x3)] [] h Q := by
  refine eb_iinc (pc := 1672) (i := 3) (n := 6) (v := x3 + 6) (ls2 := [(3, .int (x3 + 6)), (0, .ref 20), (1, .ref a1), (2, .ref a2)]) (Nat.le_of_ble_eq_true rfl) rfl rfl rfl rfl ?_
  refine eb_goto (pc := 1675) (tgt := 18) rfl (by decide) ?_
  exact eb_pick [1, 2, 3, 0] rfl w
