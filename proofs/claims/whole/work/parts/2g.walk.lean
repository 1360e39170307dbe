theorem b_X11_readDrift_0 {d : Nat} {h0 h : eb_H} {Q : Option Value → eb_H → Prop}   (ko : eb_KO h) (w : eb_Ct d 164 [.ref s_MO] h (fun r h1 => r = none ∧ eb_KO h1 ∧ eb_Ct d 179 [.ref s_MO] h1 (fun r h4 => ∃ y5, r = some (.int y5) ∧ eb_KO h4 ∧ Q none (eb_sI h4 s_m_fresh (50 : Int32).toNatClampNeg ((eb_I h1 s_m_fresh (50 : Int32).toNatClampNeg) ||| ((1 : Int32) <<< (y5 &&& 31))))))) : eb_Sn (d + 1) m_X11_readDrift h0 0 [(0, .ref s_MO)] [] h Q := by
  refine eb_aload_n (pc := 0) (n := 0) (i := 0) rfl rfl rfl ?_
  refine eb_ctV (pc := 1) (As := []) (rest := []) rfl (by decide) rfl rfl (by decide) rfl (Nat.le_of_ble_eq_true rfl) ?_
  refine eb_Ct.mono w ?_
  rintro r h1 ⟨rfl, ko3, w⟩
  change eb_Sn _ _ _ 4 _ [] _ _
  refine eb_aload_n (pc := 4) (n := 0) (i := 0) rfl rfl rfl ?_
  refine eb_getR (pc := 5) rfl rfl (by decide) (by decide) rfl (ko_s_MO_4 ko3) ?_
  refine eb_bipush (pc := 8) (n := 50) (v := 50) rfl rfl ?_
  refine eb_dup2 (pc := 10) rfl ?_
  refine eb_iaload (pc := 11) rfl rfl (by unfold vp_in; decide) ?_
  refine eb_iconst (pc := 12) (n := 1) (v := 1) rfl rfl ?_
  refine eb_aload_n (pc := 13) (n := 0) (i := 0) rfl rfl rfl ?_
  refine eb_ctV (pc := 14) (As := []) (rest := [.int 1, .int (eb_I h1 s_m_fresh (50 : Int32).toNatClampNeg), .int 50, .ref s_m_fresh]) rfl (by decide) rfl rfl (by decide) rfl (Nat.le_of_ble_eq_true rfl) ?_
  refine eb_Ct.mono w ?_
  rintro r h4 ⟨y5, rfl, ko6, w⟩
  change eb_Sn _ _ _ 17 _ [.int y5, .int 1, .int (eb_I h1 s_m_fresh (50 : Int32).toNatClampNeg), .int 50, .ref s_m_fresh] _ _
  refine eb_ishl (pc := 17) rfl ?_
  refine eb_ior (pc := 18) rfl ?_
  refine eb_iastore (pc := 19) rfl rfl (by unfold vp_in; decide) ?_
  exact eb_return (pc := 20) rfl rfl w
theorem T_X11_readDrift {d : Nat} {h : eb_H} {Q : Option Value → eb_H → Prop}   (ko : eb_KO h) (w : eb_Ct d 164 [.ref s_MO] h (fun r h1 => r = none ∧ eb_KO h1 ∧ eb_Ct d 179 [.ref s_MO] h1 (fun r h4 => ∃ y5, r = some (.int y5) ∧ eb_KO h4 ∧ Q none (eb_sI h4 s_m_fresh (50 : Int32).toNatClampNeg ((eb_I h1 s_m_fresh (50 : Int32).toNatClampNeg) ||| ((1 : Int32) <<< (y5 &&& 31))))))) : eb_Ct (d + 1) 185 [.ref s_MO] h Q :=
  eb_bodyQ (by decide) ok_X11_readDrift (Nat.le_of_ble_eq_true rfl) (b_X11_readDrift_0 (h0 := h)   ko w)
theorem b_X11_readLine_0 {d : Nat} {h0 h : eb_H} {Q : Option Value → eb_H → Prop}   (ko : eb_KO h) (w : (((eb_I h s_MO 11) = 0 → eb_Ct d 166 [.ref s_MO, .int 2] h (fun r h2 => ∃ y3, r = some (.int y3) ∧ eb_KO h2 ∧ ((y3 = 0 → eb_Ct d 166 [.ref s_MO, .int 3] h2 (fun r h6 => ∃ y7, r = some (.int y7) ∧ eb_KO h6 ∧ ((y7 = 0 → eb_Ct d 166 [.ref s_MO, .int 4] h6 (fun r h10 => ∃ y11, r = some (.int y11) ∧ eb_KO h10 ∧ ((y11 = 0 → eb_Ct d 166 [.ref s_MO, .int 5] h10 (fun r h14 => ∃ y15, r = some (.int y15) ∧ eb_KO h14 ∧ ((y15 = 0 → eb_Ct d 167 [.ref s_MO, .int 6] h14 (fun r h18 => ∃ y19, r = some (.int y19) ∧ eb_KO h18 ∧ ((y19 = 0 → eb_Ct d 166 [.ref s_MO, .int 7] h18 (fun r h22 => ∃ y23, r = some (.int y23) ∧ eb_KO h22 ∧ ((y23 = 0 → eb_Ct d 166 [.ref s_MO, .int 8] h22 (fun r h26 => ∃ y27, r = some (.int y27) ∧ eb_KO h26 ∧ ((¬ y27 = 0 → eb_Ct d 184 [.ref s_MO, .int ((eb_I h26 s_MO 9) - 8)] h26 (fun r h30 => r = none ∧ eb_KO h30 ∧ Q none h30)) ∧ (y27 = 0 → eb_Ct d 166 [.ref s_MO, .int 9] h26 (fun r h33 => ∃ y34, r = some (.int y34) ∧ eb_KO h33 ∧ ((y34 = 0 → eb_Ct d 165 [.ref s_MO, .int 2] h33 (fun r h37 => r = none ∧ eb_KO h37 ∧ Q none h37)) ∧ (¬ (y34 = 0) → eb_Ct d 184 [.ref s_MO, .int ((eb_I h33 s_MO 9) - 8)] h33 (fun r h40 => r = none ∧ eb_KO h40 ∧ Q none h40)))))))) ∧ (¬ (y23 = 0) → eb_Ct d 183 [.ref s_MO] h22 (fun r h43 => r = none ∧ eb_KO h43 ∧ Q none h43))))) ∧ (¬ (y19 = 0) → eb_Ct d 168 [.ref s_MO, .int 0, .int 9] h18 (fun r h46 => ∃ y47, r = some (.int y47) ∧ eb_KO h46 ∧ Q none (eb_sI h46 s_m_fresh (51 : Int32).toNatClampNeg y47)))))) ∧ (¬ (y15 = 0) → eb_Ct d 182 [.ref s_MO] h14 (fun r h49 => r = none ∧ eb_KO h49 ∧ Q none h49))))) ∧ (¬ (y11 = 0) → eb_Ct d 185 [.ref s_MO] h10 (fun r h52 => r = none ∧ eb_KO h52 ∧ Q none h52))))) ∧ (¬ (y7 = 0) → eb_Ct d 181 [.ref s_MO] h6 (fun r h55 => r = none ∧ eb_KO h55 ∧ Q none h55))))) ∧ (¬ (y3 = 0) → eb_Ct d 180 [.ref s_MO] h2 (fun r h58 => r = none ∧ eb_KO h58 ∧ Q none h58))))) ∧ (¬ ((eb_I h s_MO 11) = 0) → Q none h))) : eb_Sn (d + 1) m_X11_readLine h0 0 [(0, .ref s_MO)] [] h Q := by
  refine eb_aload_n (pc := 0) (n := 0) (i := 0) rfl rfl rfl ?_
  refine eb_getI (pc := 1) rfl rfl (by decide) (by decide) rfl ?_
  refine eb_if_eq (pc := 4) (tgt := 8) rfl (by decide) (fun c1 => ?_) (fun c1 => ?_)
  · replace w := w.1 c1
    refine eb_aload_n (pc := 8) (n := 0) (i := 0) rfl rfl rfl ?_
    refine eb_iconst (pc := 9) (n := 2) (v := 2) rfl rfl ?_
    refine eb_ctV (pc := 10) (As := [.int 2]) (rest := []) rfl (by decide) rfl rfl (by decide) rfl (Nat.le_of_ble_eq_true rfl) ?_
    refine eb_Ct.mono w ?_
    rintro r h2 ⟨y3, rfl, ko4, w⟩
    change eb_Sn _ _ _ 13 _ [.int y3] _ _
    refine eb_if_eq (pc := 13) (tgt := 23) rfl (by decide) (fun c5 => ?_) (fun c5 => ?_)
    · replace w := w.1 c5
      refine eb_aload_n (pc := 23) (n := 0) (i := 0) rfl rfl rfl ?_
      refine eb_iconst (pc := 24) (n := 3) (v := 3) rfl rfl ?_
      refine eb_ctV (pc := 25) (As := [.int 3]) (rest := []) rfl (by decide) rfl rfl (by decide) rfl (Nat.le_of_ble_eq_true rfl) ?_
      refine eb_Ct.mono w ?_
      rintro r h6 ⟨y7, rfl, ko8, w⟩
      change eb_Sn _ _ _ 28 _ [.int y7] _ _
      refine eb_if_eq (pc := 28) (tgt := 38) rfl (by decide) (fun c9 => ?_) (fun c9 => ?_)
      · replace w := w.1 c9
        refine eb_aload_n (pc := 38) (n := 0) (i := 0) rfl rfl rfl ?_
        refine eb_iconst (pc := 39) (n := 4) (v := 4) rfl rfl ?_
        refine eb_ctV (pc := 40) (As := [.int 4]) (rest := []) rfl (by decide) rfl rfl (by decide) rfl (Nat.le_of_ble_eq_true rfl) ?_
        refine eb_Ct.mono w ?_
        rintro r h10 ⟨y11, rfl, ko12, w⟩
        change eb_Sn _ _ _ 43 _ [.int y11] _ _
        refine eb_if_eq (pc := 43) (tgt := 53) rfl (by decide) (fun c13 => ?_) (fun c13 => ?_)
        · replace w := w.1 c13
          refine eb_aload_n (pc := 53) (n := 0) (i := 0) rfl rfl rfl ?_
          refine eb_iconst (pc := 54) (n := 5) (v := 5) rfl rfl ?_
          refine eb_ctV (pc := 55) (As := [.int 5]) (rest := []) rfl (by decide) rfl rfl (by decide) rfl (Nat.le_of_ble_eq_true rfl) ?_
          refine eb_Ct.mono w ?_
          rintro r h14 ⟨y15, rfl, ko16, w⟩
          change eb_Sn _ _ _ 58 _ [.int y15] _ _
          refine eb_if_eq (pc := 58) (tgt := 68) rfl (by decide) (fun c17 => ?_) (fun c17 => ?_)
          · replace w := w.1 c17
            refine eb_aload_n (pc := 68) (n := 0) (i := 0) rfl rfl rfl ?_
            refine eb_bipush (pc := 69) (n := 6) (v := 6) rfl rfl ?_
            refine eb_ctV (pc := 71) (As := [.int 6]) (rest := []) rfl (by decide) rfl rfl (by decide) rfl (Nat.le_of_ble_eq_true rfl) ?_
            refine eb_Ct.mono w ?_
            rintro r h18 ⟨y19, rfl, ko20, w⟩
            change eb_Sn _ _ _ 74 _ [.int y19] _ _
            refine eb_if_eq (pc := 74) (tgt := 94) rfl (by decide) (fun c21 => ?_) (fun c21 => ?_)
            · replace w := w.1 c21
              refine eb_aload_n (pc := 94) (n := 0) (i := 0) rfl rfl rfl ?_
              refine eb_bipush (pc := 95) (n := 7) (v := 7) rfl rfl ?_
              refine eb_ctV (pc := 97) (As := [.int 7]) (rest := []) rfl (by decide) rfl rfl (by decide) rfl (Nat.le_of_ble_eq_true rfl) ?_
              refine eb_Ct.mono w ?_
              rintro r h22 ⟨y23, rfl, ko24, w⟩
              change eb_Sn _ _ _ 100 _ [.int y23] _ _
              refine eb_if_eq (pc := 100) (tgt := 110) rfl (by decide) (fun c25 => ?_) (fun c25 => ?_)
              · replace w := w.1 c25
                refine eb_aload_n (pc := 110) (n := 0) (i := 0) rfl rfl rfl ?_
                refine eb_bipush (pc := 111) (n := 8) (v := 8) rfl rfl ?_
                refine eb_ctV (pc := 113) (As := [.int 8]) (rest := []) rfl (by decide) rfl rfl (by decide) rfl (Nat.le_of_ble_eq_true rfl) ?_
                refine eb_Ct.mono w ?_
                rintro r h26 ⟨y27, rfl, ko28, w⟩
                change eb_Sn _ _ _ 116 _ [.int y27] _ _
                refine eb_if_ne (pc := 116) (tgt := 128) rfl (by decide) (fun c29 => ?_) (fun c29 => ?_)
                · replace w := w.1 c29
                  refine eb_aload_n (pc := 128) (n := 0) (i := 0) rfl rfl rfl ?_
                  refine eb_aload_n (pc := 129) (n := 0) (i := 0) rfl rfl rfl ?_
                  refine eb_getI (pc := 130) rfl rfl (by decide) (by decide) rfl ?_
                  refine eb_bipush (pc := 133) (n := 8) (v := 8) rfl rfl ?_
                  refine eb_isub (pc := 135) rfl ?_
                  refine eb_ctV (pc := 136) (As := [.int ((eb_I h26 s_MO 9) - 8)]) (rest := []) rfl (by decide) rfl rfl (by decide) rfl (Nat.le_of_ble_eq_true rfl) ?_
                  refine eb_Ct.mono w ?_
                  rintro r h30 ⟨rfl, ko32, w⟩
                  change eb_Sn _ _ _ 139 _ [] _ _
                  refine eb_goto (pc := 139) (tgt := 147) rfl (by decide) ?_
                  exact eb_return (pc := 147) rfl rfl w
                · replace w := w.2 c29
                  refine eb_aload_n (pc := 119) (n := 0) (i := 0) rfl rfl rfl ?_
                  refine eb_bipush (pc := 120) (n := 9) (v := 9) rfl rfl ?_
                  refine eb_ctV (pc := 122) (As := [.int 9]) (rest := []) rfl (by decide) rfl rfl (by decide) rfl (Nat.le_of_ble_eq_true rfl) ?_
                  refine eb_Ct.mono w ?_
                  rintro r h33 ⟨y34, rfl, ko35, w⟩
                  change eb_Sn _ _ _ 125 _ [.int y34] _ _
                  refine eb_if_eq (pc := 125) (tgt := 142) rfl (by decide) (fun c36 => ?_) (fun c36 => ?_)
                  · replace w := w.1 c36
                    refine eb_aload_n (pc := 142) (n := 0) (i := 0) rfl rfl rfl ?_
                    refine eb_iconst (pc := 143) (n := 2) (v := 2) rfl rfl ?_
                    refine eb_ctV (pc := 144) (As := [.int 2]) (rest := []) rfl (by decide) rfl rfl (by decide) rfl (Nat.le_of_ble_eq_true rfl) ?_
                    refine eb_Ct.mono w ?_
                    rintro r h37 ⟨rfl, ko39, w⟩
                    change eb_Sn _ _ _ 147 _ [] _ _
                    exact eb_return (pc := 147) rfl rfl w
                  · replace w := w.2 c36
                    refine eb_aload_n (pc := 128) (n := 0) (i := 0) rfl rfl rfl ?_
                    refine eb_aload_n (pc := 129) (n := 0) (i := 0) rfl rfl rfl ?_
                    refine eb_getI (pc := 130) rfl rfl (by decide) (by decide) rfl ?_
                    refine eb_bipush (pc := 133) (n := 8) (v := 8) rfl rfl ?_
                    refine eb_isub (pc := 135) rfl ?_
                    refine eb_ctV (pc := 136) (As := [.int ((eb_I h33 s_MO 9) - 8)]) (rest := []) rfl (by decide) rfl rfl (by decide) rfl (Nat.le_of_ble_eq_true rfl) ?_
                    refine eb_Ct.mono w ?_
                    rintro r h40 ⟨rfl, ko42, w⟩
                    change eb_Sn _ _ _ 139 _ [] _ _
                    refine eb_goto (pc := 139) (tgt := 147) rfl (by decide) ?_
                    exact eb_return (pc := 147) rfl rfl w
              · replace w := w.2 c25
                refine eb_aload_n (pc := 103) (n := 0) (i := 0) rfl rfl rfl ?_
                refine eb_ctV (pc := 104) (As := []) (rest := []) rfl (by decide) rfl rfl (by decide) rfl (Nat.le_of_ble_eq_true rfl) ?_
                refine eb_Ct.mono w ?_
                rintro r h43 ⟨rfl, ko45, w⟩
                change eb_Sn _ _ _ 107 _ [] _ _
                refine eb_goto (pc := 107) (tgt := 147) rfl (by decide) ?_
                exact eb_return (pc := 147) rfl rfl w
            · replace w := w.2 c21
              refine eb_aload_n (pc := 77) (n := 0) (i := 0) rfl rfl rfl ?_
              refine eb_getR (pc := 78) rfl rfl (by decide) (by decide) rfl (ko_s_MO_4 ko20) ?_
              refine eb_bipush (pc := 81) (n := 51) (v := 51) rfl rfl ?_
              refine eb_aload_n (pc := 83) (n := 0) (i := 0) rfl rfl rfl ?_
              refine eb_iconst (pc := 84) (n := 0) (v := 0) rfl rfl ?_
              refine eb_bipush (pc := 85) (n := 9) (v := 9) rfl rfl ?_
              refine eb_ctV (pc := 87) (As := [.int 0, .int 9]) (rest := [.int 51, .ref s_m_fresh]) rfl (by decide) rfl rfl (by decide) rfl (Nat.le_of_ble_eq_true rfl) ?_
              refine eb_Ct.mono w ?_
              rintro r h46 ⟨y47, rfl, ko48, w⟩
              change eb_Sn _ _ _ 90 _ [.int y47, .int 51, .ref s_m_fresh] _ _
              refine eb_iastore (pc := 90) rfl rfl (by unfold vp_in; decide) ?_
              refine eb_goto (pc := 91) (tgt := 147) rfl (by decide) ?_
              exact eb_return (pc := 147) rfl rfl w
          · replace w := w.2 c17
            refine eb_aload_n (pc := 61) (n := 0) (i := 0) rfl rfl rfl ?_
            refine eb_ctV (pc := 62) (As := []) (rest := []) rfl (by decide) rfl rfl (by decide) rfl (Nat.le_of_ble_eq_true rfl) ?_
            refine eb_Ct.mono w ?_
            rintro r h49 ⟨rfl, ko51, w⟩
            change eb_Sn _ _ _ 65 _ [] _ _
            refine eb_goto (pc := 65) (tgt := 147) rfl (by decide) ?_
            exact eb_return (pc := 147) rfl rfl w
        · replace w := w.2 c13
          refine eb_aload_n (pc := 46) (n := 0) (i := 0) rfl rfl rfl ?_
          refine eb_ctV (pc := 47) (As := []) (rest := []) rfl (by decide) rfl rfl (by decide) rfl (Nat.le_of_ble_eq_true rfl) ?_
          refine eb_Ct.mono w ?_
          rintro r h52 ⟨rfl, ko54, w⟩
          change eb_Sn _ _ _ 50 _ [] _ _
          refine eb_goto (pc := 50) (tgt := 147) rfl (by decide) ?_
          exact eb_return (pc := 147) rfl rfl w
      · replace w := w.2 c9
        refine eb_aload_n (pc := 31) (n := 0) (i := 0) rfl rfl rfl ?_
        refine eb_ctV (pc := 32) (As := []) (rest := []) rfl (by decide) rfl rfl (by decide) rfl (Nat.le_of_ble_eq_true rfl) ?_
        refine eb_Ct.mono w ?_
        rintro r h55 ⟨rfl, ko57, w⟩
        change eb_Sn _ _ _ 35 _ [] _ _
        refine eb_goto (pc := 35) (tgt := 147) rfl (by decide) ?_
        exact eb_return (pc := 147) rfl rfl w
    · replace w := w.2 c5
      refine eb_aload_n (pc := 16) (n := 0) (i := 0) rfl rfl rfl ?_
      refine eb_ctV (pc := 17) (As := []) (rest := []) rfl (by decide) rfl rfl (by decide) rfl (Nat.le_of_ble_eq_true rfl) ?_
      refine eb_Ct.mono w ?_
      rintro r h58 ⟨rfl, ko60, w⟩
      change eb_Sn _ _ _ 20 _ [] _ _
      refine eb_goto (pc := 20) (tgt := 147) rfl (by decide) ?_
      exact eb_return (pc := 147) rfl rfl w
  · replace w := w.2 c1
    exact eb_return (pc := 7) rfl rfl w
theorem T_X11_readLine {d : Nat} {h : eb_H} {Q : Option Value → eb_H → Prop}   (ko : eb_KO h) (w : (((eb_I h s_MO 11) = 0 → eb_Ct d 166 [.ref s_MO, .int 2] h (fun r h2 => ∃ y3, r = some (.int y3) ∧ eb_KO h2 ∧ ((y3 = 0 → eb_Ct d 166 [.ref s_MO, .int 3] h2 (fun r h6 => ∃ y7, r = some (.int y7) ∧ eb_KO h6 ∧ ((y7 = 0 → eb_Ct d 166 [.ref s_MO, .int 4] h6 (fun r h10 => ∃ y11, r = some (.int y11) ∧ eb_KO h10 ∧ ((y11 = 0 → eb_Ct d 166 [.ref s_MO, .int 5] h10 (fun r h14 => ∃ y15, r = some (.int y15) ∧ eb_KO h14 ∧ ((y15 = 0 → eb_Ct d 167 [.ref s_MO, .int 6] h14 (fun r h18 => ∃ y19, r = some (.int y19) ∧ eb_KO h18 ∧ ((y19 = 0 → eb_Ct d 166 [.ref s_MO, .int 7] h18 (fun r h22 => ∃ y23, r = some (.int y23) ∧ eb_KO h22 ∧ ((y23 = 0 → eb_Ct d 166 [.ref s_MO, .int 8] h22 (fun r h26 => ∃ y27, r = some (.int y27) ∧ eb_KO h26 ∧ ((¬ y27 = 0 → eb_Ct d 184 [.ref s_MO, .int ((eb_I h26 s_MO 9) - 8)] h26 (fun r h30 => r = none ∧ eb_KO h30 ∧ Q none h30)) ∧ (y27 = 0 → eb_Ct d 166 [.ref s_MO, .int 9] h26 (fun r h33 => ∃ y34, r = some (.int y34) ∧ eb_KO h33 ∧ ((y34 = 0 → eb_Ct d 165 [.ref s_MO, .int 2] h33 (fun r h37 => r = none ∧ eb_KO h37 ∧ Q none h37)) ∧ (¬ (y34 = 0) → eb_Ct d 184 [.ref s_MO, .int ((eb_I h33 s_MO 9) - 8)] h33 (fun r h40 => r = none ∧ eb_KO h40 ∧ Q none h40)))))))) ∧ (¬ (y23 = 0) → eb_Ct d 183 [.ref s_MO] h22 (fun r h43 => r = none ∧ eb_KO h43 ∧ Q none h43))))) ∧ (¬ (y19 = 0) → eb_Ct d 168 [.ref s_MO, .int 0, .int 9] h18 (fun r h46 => ∃ y47, r = some (.int y47) ∧ eb_KO h46 ∧ Q none (eb_sI h46 s_m_fresh (51 : Int32).toNatClampNeg y47)))))) ∧ (¬ (y15 = 0) → eb_Ct d 182 [.ref s_MO] h14 (fun r h49 => r = none ∧ eb_KO h49 ∧ Q none h49))))) ∧ (¬ (y11 = 0) → eb_Ct d 185 [.ref s_MO] h10 (fun r h52 => r = none ∧ eb_KO h52 ∧ Q none h52))))) ∧ (¬ (y7 = 0) → eb_Ct d 181 [.ref s_MO] h6 (fun r h55 => r = none ∧ eb_KO h55 ∧ Q none h55))))) ∧ (¬ (y3 = 0) → eb_Ct d 180 [.ref s_MO] h2 (fun r h58 => r = none ∧ eb_KO h58 ∧ Q none h58))))) ∧ (¬ ((eb_I h s_MO 11) = 0) → Q none h))) : eb_Ct (d + 1) 186 [.ref s_MO] h Q :=
  eb_bodyQ (by decide) ok_X11_readLine (Nat.le_of_ble_eq_true rfl) (b_X11_readLine_0 (h0 := h)   ko w)
theorem b_X11_ends_0 {d : Nat} {h0 h : eb_H} {Q : Option Value → eb_H → Prop}   (ko : eb_KO h) (w : eb_Ct d 167 [.ref s_MO, .int 30] h (fun r h1 => ∃ y2, r = some (.int y2) ∧ eb_KO h1 ∧ ((¬ y2 = 0 → Q none (eb_sI h1 s_m_fresh (0 : Int32).toNatClampNeg ((eb_I h1 s_m_fresh (0 : Int32).toNatClampNeg) + 1))) ∧ (y2 = 0 → eb_Ct d 165 [.ref s_MO, .int 2] h1 (fun r h5 => r = none ∧ eb_KO h5 ∧ Q none (eb_sI h5 s_m_fresh (0 : Int32).toNatClampNeg ((eb_I h5 s_m_fresh (0 : Int32).toNatClampNeg) + 1))))))) : eb_Sn (d + 1) m_X11_ends h0 0 [(0, .ref s_MO)] [] h Q := by
  refine eb_aload_n (pc := 0) (n := 0) (i := 0) rfl rfl rfl ?_
  refine eb_bipush (pc := 1) (n := 30) (v := 30) rfl rfl ?_
  refine eb_ctV (pc := 3) (As := [.int 30]) (rest := []) rfl (by decide) rfl rfl (by decide) rfl (Nat.le_of_ble_eq_true rfl) ?_
  refine eb_Ct.mono w ?_
  rintro r h1 ⟨y2, rfl, ko3, w⟩
  change eb_Sn _ _ _ 6 _ [.int y2] _ _
  refine eb_if_ne (pc := 6) (tgt := 14) rfl (by decide) (fun c4 => ?_) (fun c4 => ?_)
  · replace w := w.1 c4
    refine eb_aload_n (pc := 14) (n := 0) (i := 0) rfl rfl rfl ?_
    refine eb_getR (pc := 15) rfl rfl (by decide) (by decide) rfl (ko_s_MO_4 ko3) ?_
    refine eb_iconst (pc := 18) (n := 0) (v := 0) rfl rfl ?_
    refine eb_dup2 (pc := 19) rfl ?_
    refine eb_iaload (pc := 20) rfl rfl (by unfold vp_in; decide) ?_
    refine eb_iconst (pc := 21) (n := 1) (v := 1) rfl rfl ?_
    refine eb_iadd (pc := 22) rfl ?_
    refine eb_iastore (pc := 23) rfl rfl (by unfold vp_in; decide) ?_
    exact eb_return (pc := 24) rfl rfl w
  · replace w := w.2 c4
    refine eb_aload_n (pc := 9) (n := 0) (i := 0) rfl rfl rfl ?_
    refine eb_iconst (pc := 10) (n := 2) (v := 2) rfl rfl ?_
    refine eb_ctV (pc := 11) (As := [.int 2]) (rest := []) rfl (by decide) rfl rfl (by decide) rfl (Nat.le_of_ble_eq_true rfl) ?_
    refine eb_Ct.mono w ?_
    rintro r h5 ⟨rfl, ko7, w⟩
    change eb_Sn _ _ _ 14 _ [] _ _
    refine eb_aload_n (pc := 14) (n := 0) (i := 0) rfl rfl rfl ?_
    refine eb_getR (pc := 15) rfl rfl (by decide) (by decide) rfl (ko_s_MO_4 ko7) ?_
    refine eb_iconst (pc := 18) (n := 0) (v := 0) rfl rfl ?_
    refine eb_dup2 (pc := 19) rfl ?_
    refine eb_iaload (pc := 20) rfl rfl (by unfold vp_in; decide) ?_
    refine eb_iconst (pc := 21) (n := 1) (v := 1) rfl rfl ?_
    refine eb_iadd (pc := 22) rfl ?_
    refine eb_iastore (pc := 23) rfl rfl (by unfold vp_in; decide) ?_
    exact eb_return (pc := 24) rfl rfl w
theorem T_X11_ends {d : Nat} {h : eb_H} {Q : Option Value → eb_H → Prop}   (ko : eb_KO h) (w : eb_Ct d 167 [.ref s_MO, .int 30] h (fun r h1 => ∃ y2, r = some (.int y2) ∧ eb_KO h1 ∧ ((¬ y2 = 0 → Q none (eb_sI h1 s_m_fresh (0 : Int32).toNatClampNeg ((eb_I h1 s_m_fresh (0 : Int32).toNatClampNeg) + 1))) ∧ (y2 = 0 → eb_Ct d 165 [.ref s_MO, .int 2] h1 (fun r h5 => r = none ∧ eb_KO h5 ∧ Q none (eb_sI h5 s_m_fresh (0 : Int32).toNatClampNeg ((eb_I h5 s_m_fresh (0 : Int32).toNatClampNeg) + 1))))))) : eb_Ct (d + 1) 187 [.ref s_MO] h Q :=
  eb_bodyQ (by decide) ok_X11_ends (Nat.le_of_ble_eq_true rfl) (b_X11_ends_0 (h0 := h)   ko w)
theorem b_X11_valley_0 {d : Nat} {h0 h : eb_H} {Q : Option Value → eb_H → Prop} (x1 : Int32)  (ko : eb_KO h) (w : eb_Ct d 156 [.long x1.toInt64, .long 0, .long ((eb_I (eb_sI h s_MO 0 0) s_MO 5).toInt64)] (eb_sI h s_MO 0 0) (fun r h1 => ∃ y2, r = some (.int y2) ∧ eb_KO h1 ∧ ((¬ y2 = 0 → eb_Ct d 158 [.ref s_m_fresh] (eb_sI (eb_sI (eb_sI (eb_sI h1 s_MO 8 x1) s_MO 5 0) s_MO 7 0) s_MO 11 0) (fun r h5 => r = none ∧ eb_KO h5 ∧ eb_Ct d 164 [.ref s_MO] h5 (fun r h8 => r = none ∧ eb_KO h8 ∧ eb_Ct d 167 [.ref s_MO, .int 0] h8 (fun r h11 => ∃ y12, r = some (.int y12) ∧ eb_KO h11 ∧ ((¬ y12 = 0 → eb_Ct d 168 [.ref s_MO, .int 1, .int 4] h11 (fun r h15 => ∃ y16, r = some (.int y16) ∧ eb_KO h15 ∧ eb_Ct d 168 [.ref s_MO, .int 1, .int 4] (eb_sI h15 s_m_fresh (1 : Int32).toNatClampNeg y16) (fun r h18 => ∃ y19, r = some (.int y19) ∧ eb_KO h18 ∧ eb_Ct d 167 [.ref s_MO, .int 1] (eb_sI h18 s_m_fresh (2 : Int32).toNatClampNeg y19) (fun r h21 => ∃ y22, r = some (.int y22) ∧ eb_KO h21 ∧ ((¬ y22 = 0 → eb_Ct d 168 [.ref s_MO, .int 1, .int 6] h21 (fun r h25 => ∃ y26, r = some (.int y26) ∧ eb_KO h25 ∧ eb_Ct d 187 [.ref s_MO] (eb_sI h25 s_m_fresh (3 : Int32).toNatClampNeg y26) (fun r h28 => r = none ∧ eb_KO h28 ∧ eb_Sn (d + 1) m_X11_valley h0 120 [(0, .ref s_MO)] [] h28 Q))) ∧ (y22 = 0 → eb_Ct d 165 [.ref s_MO, .int 2] h21 (fun r h31 => r = none ∧ eb_KO h31 ∧ eb_Ct d 168 [.ref s_MO, .int 1, .int 6] h31 (fun r h34 => ∃ y35, r = some (.int y35) ∧ eb_KO h34 ∧ eb_Ct d 187 [.ref s_MO] (eb_sI h34 s_m_fresh (3 : Int32).toNatClampNeg y35) (fun r h37 => r = none ∧ eb_KO h37 ∧ eb_Sn (d + 1) m_X11_valley h0 120 [(0, .ref s_MO)] [] h37 Q))))))))) ∧ (y12 = 0 → eb_Ct d 165 [.ref s_MO, .int 2] h11 (fun r h40 => r = none ∧ eb_KO h40 ∧ eb_Ct d 168 [.ref s_MO, .int 1, .int 4] h40 (fun r h43 => ∃ y44, r = some (.int y44) ∧ eb_KO h43 ∧ eb_Ct d 168 [.ref s_MO, .int 1, .int 4] (eb_sI h43 s_m_fresh (1 : Int32).toNatClampNeg y44) (fun r h46 => ∃ y47, r = some (.int y47) ∧ eb_KO h46 ∧ eb_Ct d 167 [.ref s_MO, .int 1] (eb_sI h46 s_m_fresh (2 : Int32).toNatClampNeg y47) (fun r h49 => ∃ y50, r = some (.int y50) ∧ eb_KO h49 ∧ ((¬ y50 = 0 → eb_Ct d 168 [.ref s_MO, .int 1, .int 6] h49 (fun r h53 => ∃ y54, r = some (.int y54) ∧ eb_KO h53 ∧ eb_Ct d 187 [.ref s_MO] (eb_sI h53 s_m_fresh (3 : Int32).toNatClampNeg y54) (fun r h56 => r = none ∧ eb_KO h56 ∧ eb_Sn (d + 1) m_X11_valley h0 120 [(0, .ref s_MO)] [] h56 Q))) ∧ (y50 = 0 → eb_Ct d 165 [.ref s_MO, .int 2] h49 (fun r h59 => r = none ∧ eb_KO h59 ∧ eb_Ct d 168 [.ref s_MO, .int 1, .int 6] h59 (fun r h62 => ∃ y63, r = some (.int y63) ∧ eb_KO h62 ∧ eb_Ct d 187 [.ref s_MO] (eb_sI h62 s_m_fresh (3 : Int32).toNatClampNeg y63) (fun r h65 => r = none ∧ eb_KO h65 ∧ eb_Sn (d + 1) m_X11_valley h0 120 [(0, .ref s_MO)] [] h65 Q))))))))))))))) ∧ (y2 = 0 → Q (some (.int (-3))) h1)))) : eb_Sn (d + 1) m_X11_valley h0 0 [(0, .ref s_MO), (1, .int x1)] [] h Q := by
  refine eb_aload_n (pc := 0) (n := 0) (i := 0) rfl rfl rfl ?_
  refine eb_iconst (pc := 1) (n := 0) (v := 0) rfl rfl ?_
  refine eb_putI (pc := 2) rfl rfl (by decide) (by decide) rfl rfl ⟨rfl, rfl⟩ ?_
  refine eb_iload_n (pc := 5) (n := 1) (i := 1) rfl rfl rfl ?_
  refine eb_i2l (pc := 6) rfl ?_
  refine eb_lconst (pc := 7) (n := 0) (v := 0) rfl rfl ?_
  refine eb_aload_n (pc := 8) (n := 0) (i := 0) rfl rfl rfl ?_
  refine eb_getI (pc := 9) rfl rfl (by decide) (by decide) rfl ?_
  refine eb_i2l (pc := 12) rfl ?_
  refine eb_ctS (pc := 13) (As := [.long x1.toInt64, .long 0, .long ((eb_I (eb_sI h s_MO 0 0) s_MO 5).toInt64)]) (rest := []) rfl (by decide) (by decide) rfl rfl (Nat.le_of_ble_eq_true rfl) ?_
  refine eb_Ct.mono w ?_
  rintro r h1 ⟨y2, rfl, ko3, w⟩
  change eb_Sn _ _ _ 16 _ [.int y2] _ _
  refine eb_if_ne (pc := 16) (tgt := 22) rfl (by decide) (fun c4 => ?_) (fun c4 => ?_)
  · replace w := w.1 c4
    refine eb_aload_n (pc := 22) (n := 0) (i := 0) rfl rfl rfl ?_
    refine eb_iload_n (pc := 23) (n := 1) (i := 1) rfl rfl rfl ?_
    refine eb_putI (pc := 24) rfl rfl (by decide) (by decide) rfl rfl ⟨rfl, rfl⟩ ?_
    refine eb_aload_n (pc := 27) (n := 0) (i := 0) rfl rfl rfl ?_
    refine eb_iconst (pc := 28) (n := 0) (v := 0) rfl rfl ?_
    refine eb_putI (pc := 29) rfl rfl (by decide) (by decide) rfl rfl ⟨rfl, rfl⟩ ?_
    refine eb_aload_n (pc := 32) (n := 0) (i := 0) rfl rfl rfl ?_
    refine eb_iconst (pc := 33) (n := 0) (v := 0) rfl rfl ?_
    refine eb_putI (pc := 34) rfl rfl (by decide) (by decide) rfl rfl ⟨rfl, rfl⟩ ?_
    refine eb_aload_n (pc := 37) (n := 0) (i := 0) rfl rfl rfl ?_
    refine eb_iconst (pc := 38) (n := 0) (v := 0) rfl rfl ?_
    refine eb_putI (pc := 39) rfl rfl (by decide) (by decide) rfl rfl ⟨rfl, rfl⟩ ?_
    refine eb_aload_n (pc := 42) (n := 0) (i := 0) rfl rfl rfl ?_
    refine eb_getR (pc := 43) rfl rfl (by decide) (by decide) rfl (ko_s_MO_4 ko3) ?_
    refine eb_ctS (pc := 46) (As := [.ref s_m_fresh]) (rest := []) rfl (by decide) (by decide) rfl rfl (Nat.le_of_ble_eq_true rfl) ?_
    refine eb_Ct.mono w ?_
    rintro r h5 ⟨rfl, ko7, w⟩
    change eb_Sn _ _ _ 49 _ [] _ _
    refine eb_aload_n (pc := 49) (n := 0) (i := 0) rfl rfl rfl ?_
    refine eb_ctV (pc := 50) (As := []) (rest := []) rfl (by decide) rfl rfl (by decide) rfl (Nat.le_of_ble_eq_true rfl) ?_
    refine eb_Ct.mono w ?_
    rintro r h8 ⟨rfl, ko10, w⟩
    change eb_Sn _ _ _ 53 _ [] _ _
    refine eb_aload_n (pc := 53) (n := 0) (i := 0) rfl rfl rfl ?_
    refine eb_iconst (pc := 54) (n := 0) (v := 0) rfl rfl ?_
    refine eb_ctV (pc := 55) (As := [.int 0]) (rest := []) rfl (by decide) rfl rfl (by decide) rfl (Nat.le_of_ble_eq_true rfl) ?_
    refine eb_Ct.mono w ?_
    rintro r h11 ⟨y12, rfl, ko13, w⟩
    change eb_Sn _ _ _ 58 _ [.int y12] _ _
    refine eb_if_ne (pc := 58) (tgt := 66) rfl (by decide) (fun c14 => ?_) (fun c14 => ?_)
    · replace w := w.1 c14
      refine eb_aload_n (pc := 66) (n := 0) (i := 0) rfl rfl rfl ?_
      refine eb_getR (pc := 67) rfl rfl (by decide) (by decide) rfl (ko_s_MO_4 ko13) ?_
      refine eb_iconst (pc := 70) (n := 1) (v := 1) rfl rfl ?_
      refine eb_aload_n (pc := 71) (n := 0) (i := 0) rfl rfl rfl ?_
      refine eb_iconst (pc := 72) (n := 1) (v := 1) rfl rfl ?_
      refine eb_iconst (pc := 73) (n := 4) (v := 4) rfl rfl ?_
      refine eb_ctV (pc := 74) (As := [.int 1, .int 4]) (rest := [.int 1, .ref s_m_fresh]) rfl (by decide) rfl rfl (by decide) rfl (Nat.le_of_ble_eq_true rfl) ?_
      refine eb_Ct.mono w ?_
      rintro r h15 ⟨y16, rfl, ko17, w⟩
      change eb_Sn _ _ _ 77 _ [.int y16, .int 1, .ref s_m_fresh] _ _
      refine eb_iastore (pc := 77) rfl rfl (by unfold vp_in; decide) ?_
      refine eb_aload_n (pc := 78) (n := 0) (i := 0) rfl rfl rfl ?_
      refine eb_getR (pc := 79) rfl rfl (by decide) (by decide) rfl (ko_s_MO_4 ko17) ?_
      refine eb_iconst (pc := 82) (n := 2) (v := 2) rfl rfl ?_
      refine eb_aload_n (pc := 83) (n := 0) (i := 0) rfl rfl rfl ?_
      refine eb_iconst (pc := 84) (n := 1) (v := 1) rfl rfl ?_
      refine eb_iconst (pc := 85) (n := 4) (v := 4) rfl rfl ?_
      refine eb_ctV (pc := 86) (As := [.int 1, .int 4]) (rest := [.int 2, .ref s_m_fresh]) rfl (by decide) rfl rfl (by decide) rfl (Nat.le_of_ble_eq_true rfl) ?_
      refine eb_Ct.mono w ?_
      rintro r h18 ⟨y19, rfl, ko20, w⟩
      change eb_Sn _ _ _ 89 _ [.int y19, .int 2, .ref s_m_fresh] _ _
      refine eb_iastore (pc := 89) rfl rfl (by unfold vp_in; decide) ?_
      refine eb_aload_n (pc := 90) (n := 0) (i := 0) rfl rfl rfl ?_
      refine eb_iconst (pc := 91) (n := 1) (v := 1) rfl rfl ?_
      refine eb_ctV (pc := 92) (As := [.int 1]) (rest := []) rfl (by decide) rfl rfl (by decide) rfl (Nat.le_of_ble_eq_true rfl) ?_
      refine eb_Ct.mono w ?_
      rintro r h21 ⟨y22, rfl, ko23, w⟩
      change eb_Sn _ _ _ 95 _ [.int y22] _ _
      refine eb_if_ne (pc := 95) (tgt := 103) rfl (by decide) (fun c24 => ?_) (fun c24 => ?_)
      · replace w := w.1 c24
        refine eb_aload_n (pc := 103) (n := 0) (i := 0) rfl rfl rfl ?_
        refine eb_getR (pc := 104) rfl rfl (by decide) (by decide) rfl (ko_s_MO_4 ko23) ?_
        refine eb_iconst (pc := 107) (n := 3) (v := 3) rfl rfl ?_
        refine eb_aload_n (pc := 108) (n := 0) (i := 0) rfl rfl rfl ?_
        refine eb_iconst (pc := 109) (n := 1) (v := 1) rfl rfl ?_
        refine eb_bipush (pc := 110) (n := 6) (v := 6) rfl rfl ?_
        refine eb_ctV (pc := 112) (As := [.int 1, .int 6]) (rest := [.int 3, .ref s_m_fresh]) rfl (by decide) rfl rfl (by decide) rfl (Nat.le_of_ble_eq_true rfl) ?_
        refine eb_Ct.mono w ?_
        rintro r h25 ⟨y26, rfl, ko27, w⟩
        change eb_Sn _ _ _ 115 _ [.int y26, .int 3, .ref s_m_fresh] _ _
        refine eb_iastore (pc := 115) rfl rfl (by unfold vp_in; decide) ?_
        refine eb_aload_n (pc := 116) (n := 0) (i := 0) rfl rfl rfl ?_
        refine eb_ctV (pc := 117) (As := []) (rest := []) rfl (by decide) rfl rfl (by decide) rfl (Nat.le_of_ble_eq_true rfl) ?_
        refine eb_Ct.mono w ?_
        rintro r h28 ⟨rfl, ko30, w⟩
        change eb_Sn _ _ _ 120 _ [] _ _
        exact eb_pick [0] rfl w
      · replace w := w.2 c24
        refine eb_aload_n (pc := 98) (n := 0) (i := 0) rfl rfl rfl ?_
        refine eb_iconst (pc := 99) (n := 2) (v := 2) rfl rfl ?_
        refine eb_ctV (pc := 100) (As := [.int 2]) (rest := []) rfl (by decide) rfl rfl (by decide) rfl (Nat.le_of_ble_eq_true rfl) ?_
        refine eb_Ct.mono w ?_
        rintro r h31 ⟨rfl, ko33, w⟩
        change eb_Sn _ _ _ 103 _ [] _ _
        refine eb_aload_n (pc := 103) (n := 0) (i := 0) rfl rfl rfl ?_
        refine eb_getR (pc := 104) rfl rfl (by decide) (by decide) rfl (ko_s_MO_4 ko33) ?_
        refine eb_iconst (pc := 107) (n := 3) (v := 3) rfl rfl ?_
        refine eb_aload_n (pc := 108) (n := 0) (i := 0) rfl rfl rfl ?_
        refine eb_iconst (pc := 109) (n := 1) (v := 1) rfl rfl ?_
        refine eb_bipush (pc := 110) (n := 6) (v := 6) rfl rfl ?_
        refine eb_ctV (pc := 112) (As := [.int 1, .int 6]) (rest := [.int 3, .ref s_m_fresh]) rfl (by decide) rfl rfl (by decide) rfl (Nat.le_of_ble_eq_true rfl) ?_
        refine eb_Ct.mono w ?_
        rintro r h34 ⟨y35, rfl, ko36, w⟩
        change eb_Sn _ _ _ 115 _ [.int y35, .int 3, .ref s_m_fresh] _ _
        refine eb_iastore (pc := 115) rfl rfl (by unfold vp_in; decide) ?_
        refine eb_aload_n (pc := 116) (n := 0) (i := 0) rfl rfl rfl ?_
        refine eb_ctV (pc := 117) (As := []) (rest := []) rfl (by decide) rfl rfl (by decide) rfl (Nat.le_of_ble_eq_true rfl) ?_
        refine eb_Ct.mono w ?_
        rintro r h37 ⟨rfl, ko39, w⟩
        change eb_Sn _ _ _ 120 _ [] _ _
        exact eb_pick [0] rfl w
    · replace w := w.2 c14
      refine eb_aload_n (pc := 61) (n := 0) (i := 0) rfl rfl rfl ?_
      refine eb_iconst (pc := 62) (n := 2) (v := 2) rfl rfl ?_
      refine eb_ctV (pc := 63) (As := [.int 2]) (rest := []) rfl (by decide) rfl rfl (by decide) rfl (Nat.le_of_ble_eq_true rfl) ?_
      refine eb_Ct.mono w ?_
      rintro r h40 ⟨rfl, ko42, w⟩
      change eb_Sn _ _ _ 66 _ [] _ _
      refine eb_aload_n (pc := 66) (n := 0) (i := 0) rfl rfl rfl ?_
      refine eb_getR (pc := 67) rfl rfl (by decide) (by decide) rfl (ko_s_MO_4 ko42) ?_
      refine eb_iconst (pc := 70) (n := 1) (v := 1) rfl rfl ?_
      refine eb_aload_n (pc := 71) (n := 0) (i := 0) rfl rfl rfl ?_
      refine eb_iconst (pc := 72) (n := 1) (v := 1) rfl rfl ?_
      refine eb_iconst (pc := 73) (n := 4) (v := 4) rfl rfl ?_
      refine eb_ctV (pc := 74) (As := [.int 1, .int 4]) (rest := [.int 1, .ref s_m_fresh]) rfl (by decide) rfl rfl (by decide) rfl (Nat.le_of_ble_eq_true rfl) ?_
      refine eb_Ct.mono w ?_
      rintro r h43 ⟨y44, rfl, ko45, w⟩
      change eb_Sn _ _ _ 77 _ [.int y44, .int 1, .ref s_m_fresh] _ _
      refine eb_iastore (pc := 77) rfl rfl (by unfold vp_in; decide) ?_
      refine eb_aload_n (pc := 78) (n := 0) (i := 0) rfl rfl rfl ?_
      refine eb_getR (pc := 79) rfl rfl (by decide) (by decide) rfl (ko_s_MO_4 ko45) ?_
      refine eb_iconst (pc := 82) (n := 2) (v := 2) rfl rfl ?_
      refine eb_aload_n (pc := 83) (n := 0) (i := 0) rfl rfl rfl ?_
      refine eb_iconst (pc := 84) (n := 1) (v := 1) rfl rfl ?_
      refine eb_iconst (pc := 85) (n := 4) (v := 4) rfl rfl ?_
      refine eb_ctV (pc := 86) (As := [.int 1, .int 4]) (rest := [.int 2, .ref s_m_fresh]) rfl (by decide) rfl rfl (by decide) rfl (Nat.le_of_ble_eq_true rfl) ?_
      refine eb_Ct.mono w ?_
      rintro r h46 ⟨y47, rfl, ko48, w⟩
      change eb_Sn _ _ _ 89 _ [.int y47, .int 2, .ref s_m_fresh] _ _
      refine eb_iastore (pc := 89) rfl rfl (by unfold vp_in; decide) ?_
      refine eb_aload_n (pc := 90) (n := 0) (i := 0) rfl rfl rfl ?_
      refine eb_iconst (pc := 91) (n := 1) (v := 1) rfl rfl ?_
      refine eb_ctV (pc := 92) (As := [.int 1]) (rest := []) rfl (by decide) rfl rfl (by decide) rfl (Nat.le_of_ble_eq_true rfl) ?_
      refine eb_Ct.mono w ?_
      rintro r h49 ⟨y50, rfl, ko51, w⟩
      change eb_Sn _ _ _ 95 _ [.int y50] _ _
      refine eb_if_ne (pc := 95) (tgt := 103) rfl (by decide) (fun c52 => ?_) (fun c52 => ?_)
      · replace w := w.1 c52
        refine eb_aload_n (pc := 103) (n := 0) (i := 0) rfl rfl rfl ?_
        refine eb_getR (pc := 104) rfl rfl (by decide) (by decide) rfl (ko_s_MO_4 ko51) ?_
        refine eb_iconst (pc := 107) (n := 3) (v := 3) rfl rfl ?_
        refine eb_aload_n (pc := 108) (n := 0) (i := 0) rfl rfl rfl ?_
        refine eb_iconst (pc := 109) (n := 1) (v := 1) rfl rfl ?_
        refine eb_bipush (pc := 110) (n := 6) (v := 6) rfl rfl ?_
        refine eb_ctV (pc := 112) (As := [.int 1, .int 6]) (rest := [.int 3, .ref s_m_fresh]) rfl (by decide) rfl rfl (by decide) rfl (Nat.le_of_ble_eq_true rfl) ?_
        refine eb_Ct.mono w ?_
        rintro r h53 ⟨y54, rfl, ko55, w⟩
        change eb_Sn _ _ _ 115 _ [.int y54, .int 3, .ref s_m_fresh] _ _
        refine eb_iastore (pc := 115) rfl rfl (by unfold vp_in; decide) ?_
        refine eb_aload_n (pc := 116) (n := 0) (i := 0) rfl rfl rfl ?_
        refine eb_ctV (pc := 117) (As := []) (rest := []) rfl (by decide) rfl rfl (by decide) rfl (Nat.le_of_ble_eq_true rfl) ?_
        refine eb_Ct.mono w ?_
        rintro r h56 ⟨rfl, ko58, w⟩
        change eb_Sn _ _ _ 120 _ [] _ _
        exact eb_pick [0] rfl w
      · replace w := w.2 c52
        refine eb_aload_n (pc := 98) (n := 0) (i := 0) rfl rfl rfl ?_
        refine eb_iconst (pc := 99) (n := 2) (v := 2) rfl rfl ?_
        refine eb_ctV (pc := 100) (As := [.int 2]) (rest := []) rfl (by decide) rfl rfl (by decide) rfl (Nat.le_of_ble_eq_true rfl) ?_
        refine eb_Ct.mono w ?_
        rintro r h59 ⟨rfl, ko61, w⟩
        change eb_Sn _ _ _ 103 _ [] _ _
        refine eb_aload_n (pc := 103) (n := 0) (i := 0) rfl rfl rfl ?_
        refine eb_getR (pc := 104) rfl rfl (by decide) (by decide) rfl (ko_s_MO_4 ko61) ?_
        refine eb_iconst (pc := 107) (n := 3) (v := 3) rfl rfl ?_
        refine eb_aload_n (pc := 108) (n := 0) (i := 0) rfl rfl rfl ?_
        refine eb_iconst (pc := 109) (n := 1) (v := 1) rfl rfl ?_
        refine eb_bipush (pc := 110) (n := 6) (v := 6) rfl rfl ?_
        refine eb_ctV (pc := 112) (As := [.int 1, .int 6]) (rest := [.int 3, .ref s_m_fresh]) rfl (by decide) rfl rfl (by decide) rfl (Nat.le_of_ble_eq_true rfl) ?_
        refine eb_Ct.mono w ?_
        rintro r h62 ⟨y63, rfl, ko64, w⟩
        change eb_Sn _ _ _ 115 _ [.int y63, .int 3, .ref s_m_fresh] _ _
        refine eb_iastore (pc := 115) rfl rfl (by unfold vp_in; decide) ?_
        refine eb_aload_n (pc := 116) (n := 0) (i := 0) rfl rfl rfl ?_
        refine eb_ctV (pc := 117) (As := []) (rest := []) rfl (by decide) rfl rfl (by decide) rfl (Nat.le_of_ble_eq_true rfl) ?_
        refine eb_Ct.mono w ?_
        rintro r h65 ⟨rfl, ko67, w⟩
        change eb_Sn _ _ _ 120 _ [] _ _
        exact eb_pick [0] rfl w
  · replace w := w.2 c4
    refine eb_bipush (pc := 19) (n := -3) (v := (-3)) rfl rfl ?_
    exact eb_ireturn (pc := 21) rfl rfl rfl w
theorem b_X11_valley_120 {d : Nat} {h0 h : eb_H} {Q : Option Value → eb_H → Prop}   (ko : eb_KO h) (w : ((¬ (eb_I h s_MO 11) = 0 → (((eb_I (eb_sI (eb_sI h s_MO 13 (eb_I h s_MO 11)) s_MO 14 (if (eb_I (eb_sI h s_MO 13 (eb_I h s_MO 11)) s_MO 11) = 0 then (-1) else eb_I (eb_sI h s_MO 13 (eb_I h s_MO 11)) s_MO 12 : Int32)) s_MO 11) = 0 → eb_Sn (d + 1) m_X11_valley h0 191 [(0, .ref s_MO), (2, .int 0)] [] (eb_sI (eb_sI h s_MO 13 (eb_I h s_MO 11)) s_MO 14 (if (eb_I (eb_sI h s_MO 13 (eb_I h s_MO 11)) s_MO 11) = 0 then (-1) else eb_I (eb_sI h s_MO 13 (eb_I h s_MO 11)) s_MO 12 : Int32)) Q) ∧ (¬ ((eb_I (eb_sI (eb_sI h s_MO 13 (eb_I h s_MO 11)) s_MO 14 (if (eb_I (eb_sI h s_MO 13 (eb_I h s_MO 11)) s_MO 11) = 0 then (-1) else eb_I (eb_sI h s_MO 13 (eb_I h s_MO 11)) s_MO 12 : Int32)) s_MO 11) = 0) → Q (some (.int (((-30) : Int32) - (eb_I (eb_sI (eb_sI h s_MO 13 (eb_I h s_MO 11)) s_MO 14 (if (eb_I (eb_sI h s_MO 13 (eb_I h s_MO 11)) s_MO 11) = 0 then (-1) else eb_I (eb_sI h s_MO 13 (eb_I h s_MO 11)) s_MO 12 : Int32)) s_MO 11)))) (eb_sI (eb_sI h s_MO 13 (eb_I h s_MO 11)) s_MO 14 (if (eb_I (eb_sI h s_MO 13 (eb_I h s_MO 11)) s_MO 11) = 0 then (-1) else eb_I (eb_sI h s_MO 13 (eb_I h s_MO 11)) s_MO 12 : Int32))))) ∧ ((eb_I h s_MO 11) = 0 → (((eb_I h s_MO 9) = (24 : Int32) → (((eb_I (eb_sI (eb_sI h s_MO 13 (eb_I h s_MO 11)) s_MO 14 (if (eb_I (eb_sI h s_MO 13 (eb_I h s_MO 11)) s_MO 11) = 0 then (-1) else eb_I (eb_sI h s_MO 13 (eb_I h s_MO 11)) s_MO 12 : Int32)) s_MO 11) = 0 → eb_Sn (d + 1) m_X11_valley h0 191 [(0, .ref s_MO), (2, .int 0)] [] (eb_sI (eb_sI h s_MO 13 (eb_I h s_MO 11)) s_MO 14 (if (eb_I (eb_sI h s_MO 13 (eb_I h s_MO 11)) s_MO 11) = 0 then (-1) else eb_I (eb_sI h s_MO 13 (eb_I h s_MO 11)) s_MO 12 : Int32)) Q) ∧ (¬ ((eb_I (eb_sI (eb_sI h s_MO 13 (eb_I h s_MO 11)) s_MO 14 (if (eb_I (eb_sI h s_MO 13 (eb_I h s_MO 11)) s_MO 11) = 0 then (-1) else eb_I (eb_sI h s_MO 13 (eb_I h s_MO 11)) s_MO 12 : Int32)) s_MO 11) = 0) → Q (some (.int (((-30) : Int32) - (eb_I (eb_sI (eb_sI h s_MO 13 (eb_I h s_MO 11)) s_MO 14 (if (eb_I (eb_sI h s_MO 13 (eb_I h s_MO 11)) s_MO 11) = 0 then (-1) else eb_I (eb_sI h s_MO 13 (eb_I h s_MO 11)) s_MO 12 : Int32)) s_MO 11)))) (eb_sI (eb_sI h s_MO 13 (eb_I h s_MO 11)) s_MO 14 (if (eb_I (eb_sI h s_MO 13 (eb_I h s_MO 11)) s_MO 11) = 0 then (-1) else eb_I (eb_sI h s_MO 13 (eb_I h s_MO 11)) s_MO 12 : Int32))))) ∧ (¬ ((eb_I h s_MO 9) = (24 : Int32)) → eb_Ct d 186 [.ref s_MO] h (fun r h9 => r = none ∧ eb_KO h9 ∧ eb_Ct d 187 [.ref s_MO] h9 (fun r h12 => r = none ∧ eb_KO h12 ∧ eb_Sn (d + 1) m_X11_valley h0 120 [(0, .ref s_MO)] [] h12 Q))))))) : eb_Sn (d + 1) m_X11_valley h0 120 [(0, .ref s_MO)] [] h Q := by
  refine eb_aload_n (pc := 120) (n := 0) (i := 0) rfl rfl rfl ?_
  refine eb_getI (pc := 121) rfl rfl (by decide) (by decide) rfl ?_
  refine eb_if_ne (pc := 124) (tgt := 147) rfl (by decide) (fun c1 => ?_) (fun c1 => ?_)
  · replace w := w.1 c1
    refine eb_aload_n (pc := 147) (n := 0) (i := 0) rfl rfl rfl ?_
    refine eb_aload_n (pc := 148) (n := 0) (i := 0) rfl rfl rfl ?_
    refine eb_getI (pc := 149) rfl rfl (by decide) (by decide) rfl ?_
    refine eb_putI (pc := 152) rfl rfl (by decide) (by decide) rfl rfl ⟨rfl, rfl⟩ ?_
    refine eb_aload_n (pc := 155) (n := 0) (i := 0) rfl rfl rfl ?_
    refine eb_aload_n (pc := 156) (n := 0) (i := 0) rfl rfl rfl ?_
    refine eb_getI (pc := 157) rfl rfl (by decide) (by decide) rfl ?_
    have jj4 : eb_Sn (d + 1) m_X11_valley h0 171 [(0, .ref s_MO)] [.int (if (eb_I (eb_sI h s_MO 13 (eb_I h s_MO 11)) s_MO 11) = 0 then (-1) else eb_I (eb_sI h s_MO 13 (eb_I h s_MO 11)) s_MO 12 : Int32), .ref s_MO] (eb_sI h s_MO 13 (eb_I h s_MO 11)) Q := by
      refine eb_putI (pc := 171) rfl rfl (by decide) (by decide) rfl rfl ⟨rfl, rfl⟩ ?_
      refine eb_aload_n (pc := 174) (n := 0) (i := 0) rfl rfl rfl ?_
      refine eb_getI (pc := 175) rfl rfl (by decide) (by decide) rfl ?_
      refine eb_if_eq (pc := 178) (tgt := 189) rfl (by decide) (fun c3 => ?_) (fun c3 => ?_)
      · replace w := w.1 c3
        refine eb_iconst (pc := 189) (n := 0) (v := 0) rfl rfl ?_
        refine eb_istore_n (pc := 190) (n := 2) (i := 2) (ls2 := [(2, .int 0), (0, .ref s_MO)]) rfl (Nat.le_of_ble_eq_true rfl) rfl rfl ?_
        exact eb_pick [1, 0] rfl w
      · replace w := w.2 c3
        refine eb_bipush (pc := 181) (n := -30) (v := (-30)) rfl rfl ?_
        refine eb_aload_n (pc := 183) (n := 0) (i := 0) rfl rfl rfl ?_
        refine eb_getI (pc := 184) rfl rfl (by decide) (by decide) rfl ?_
        refine eb_isub (pc := 187) rfl ?_
        exact eb_ireturn (pc := 188) rfl rfl rfl w
    refine eb_if_ne (pc := 160) (tgt := 167) rfl (by decide) (fun c2 => ?_) (fun c2 => ?_)
    · refine eb_aload_n (pc := 167) (n := 0) (i := 0) rfl rfl rfl ?_
      refine eb_getI (pc := 168) rfl rfl (by decide) (by decide) rfl ?_
      simp only [if_neg c2] at jj4 ⊢
      exact jj4
    · refine eb_iconst (pc := 163) (n := -1) (v := (-1)) rfl rfl ?_
      refine eb_goto (pc := 164) (tgt := 171) rfl (by decide) ?_
      simp only [if_pos c2] at jj4 ⊢
      exact jj4
  · replace w := w.2 c1
    refine eb_aload_n (pc := 127) (n := 0) (i := 0) rfl rfl rfl ?_
    refine eb_getI (pc := 128) rfl rfl (by decide) (by decide) rfl ?_
    refine eb_bipush (pc := 131) (n := 24) (v := 24) rfl rfl ?_
    refine eb_icmp_eq (pc := 133) (tgt := 147) rfl (by decide) (fun c5 => ?_) (fun c5 => ?_)
    · replace w := w.1 c5
      refine eb_aload_n (pc := 147) (n := 0) (i := 0) rfl rfl rfl ?_
      refine eb_aload_n (pc := 148) (n := 0) (i := 0) rfl rfl rfl ?_
      refine eb_getI (pc := 149) rfl rfl (by decide) (by decide) rfl ?_
      refine eb_putI (pc := 152) rfl rfl (by decide) (by decide) rfl rfl ⟨rfl, rfl⟩ ?_
      refine eb_aload_n (pc := 155) (n := 0) (i := 0) rfl rfl rfl ?_
      refine eb_aload_n (pc := 156) (n := 0) (i := 0) rfl rfl rfl ?_
      refine eb_getI (pc := 157) rfl rfl (by decide) (by decide) rfl ?_
      have jj8 : eb_Sn (d + 1) m_X11_valley h0 171 [(0, .ref s_MO)] [.int (if (eb_I (eb_sI h s_MO 13 (eb_I h s_MO 11)) s_MO 11) = 0 then (-1) else eb_I (eb_sI h s_MO 13 (eb_I h s_MO 11)) s_MO 12 : Int32), .ref s_MO] (eb_sI h s_MO 13 (eb_I h s_MO 11)) Q := by
        refine eb_putI (pc := 171) rfl rfl (by decide) (by decide) rfl rfl ⟨rfl, rfl⟩ ?_
        refine eb_aload_n (pc := 174) (n := 0) (i := 0) rfl rfl rfl ?_
        refine eb_getI (pc := 175) rfl rfl (by decide) (by decide) rfl ?_
        refine eb_if_eq (pc := 178) (tgt := 189) rfl (by decide) (fun c7 => ?_) (fun c7 => ?_)
        · replace w := w.1 c7
          refine eb_iconst (pc := 189) (n := 0) (v := 0) rfl rfl ?_
          refine eb_istore_n (pc := 190) (n := 2) (i := 2) (ls2 := [(2, .int 0), (0, .ref s_MO)]) rfl (Nat.le_of_ble_eq_true rfl) rfl rfl ?_
          exact eb_pick [1, 0] rfl w
        · replace w := w.2 c7
          refine eb_bipush (pc := 181) (n := -30) (v := (-30)) rfl rfl ?_
          refine eb_aload_n (pc := 183) (n := 0) (i := 0) rfl rfl rfl ?_
          refine eb_getI (pc := 184) rfl rfl (by decide) (by decide) rfl ?_
          refine eb_isub (pc := 187) rfl ?_
          exact eb_ireturn (pc := 188) rfl rfl rfl w
      refine eb_if_ne (pc := 160) (tgt := 167) rfl (by decide) (fun c6 => ?_) (fun c6 => ?_)
      · refine eb_aload_n (pc := 167) (n := 0) (i := 0) rfl rfl rfl ?_
        refine eb_getI (pc := 168) rfl rfl (by decide) (by decide) rfl ?_
        simp only [if_neg c6] at jj8 ⊢
        exact jj8
      · refine eb_iconst (pc := 163) (n := -1) (v := (-1)) rfl rfl ?_
        refine eb_goto (pc := 164) (tgt := 171) rfl (by decide) ?_
        simp only [if_pos c6] at jj8 ⊢
        exact jj8
    · replace w := w.2 c5
      refine eb_aload_n (pc := 136) (n := 0) (i := 0) rfl rfl rfl ?_
      refine eb_ctV (pc := 137) (As := []) (rest := []) rfl (by decide) rfl rfl (by decide) rfl (Nat.le_of_ble_eq_true rfl) ?_
      refine eb_Ct.mono w ?_
      rintro r h9 ⟨rfl, ko11, w⟩
      change eb_Sn _ _ _ 140 _ [] _ _
      refine eb_aload_n (pc := 140) (n := 0) (i := 0) rfl rfl rfl ?_
      refine eb_ctV (pc := 141) (As := []) (rest := []) rfl (by decide) rfl rfl (by decide) rfl (Nat.le_of_ble_eq_true rfl) ?_
      refine eb_Ct.mono w ?_
      rintro r h12 ⟨rfl, ko14, w⟩
      change eb_Sn _ _ _ 144 _ [] _ _
      refine eb_goto (pc := 144) (tgt := 120) rfl (by decide) ?_
      exact eb_pick [0] rfl w
theorem b_X11_valley_191 {d : Nat} {h0 h : eb_H} {Q : Option Value → eb_H → Prop} (x2 : Int32)  (ko : eb_KO h) (w : (((1164 : Int32) ≤ x2 → Q (some (.int (eb_I h s_m_all (0 : Int32).toNatClampNeg))) h) ∧ (¬ ((1164 : Int32) ≤ x2) → (vp_in x2 1164) ∧ (vp_in x2 3492) ∧ eb_Sn (d + 1) m_X11_valley h0 191 [(0, .ref s_MO), (2, .int (x2 + 1))] [] (eb_sI h s_m_all x2.toNatClampNeg (eb_I h s_m_fresh x2.toNatClampNeg)) Q))) : eb_Sn (d + 1) m_X11_valley h0 191 [(0, .ref s_MO), (2, .int x2)] [] h Q := by
  refine eb_iload_n (pc := 191) (n := 2) (i := 2) rfl rfl rfl ?_
  refine eb_sipush (pc := 192) (n := 1164) (v := 1164) rfl rfl ?_
  refine eb_icmp_ge (pc := 195) (tgt := 216) rfl (by decide) (fun c1 => ?_) (fun c1 => ?_)
  · replace w := w.1 c1
    refine eb_aload_n (pc := 216) (n := 0) (i := 0) rfl rfl rfl ?_
    refine eb_getR (pc := 217) rfl rfl (by decide) (by decide) rfl (ko_s_MO_1 ko) ?_
    refine eb_iconst (pc := 220) (n := 0) (v := 0) rfl rfl ?_
    refine eb_iaload (pc := 221) rfl rfl (by unfold vp_in; decide) ?_
    exact eb_ireturn (pc := 222) rfl rfl rfl w
  · replace w := w.2 c1
    refine eb_aload_n (pc := 198) (n := 0) (i := 0) rfl rfl rfl ?_
    refine eb_getR (pc := 199) rfl rfl (by decide) (by decide) rfl (ko_s_MO_1 ko) ?_
    refine eb_iload_n (pc := 202) (n := 2) (i := 2) rfl rfl rfl ?_
    refine eb_aload_n (pc := 203) (n := 0) (i := 0) rfl rfl rfl ?_
    refine eb_getR (pc := 204) rfl rfl (by decide) (by decide) rfl (ko_s_MO_4 ko) ?_
    refine eb_iload_n (pc := 207) (n := 2) (i := 2) rfl rfl rfl ?_
    obtain ⟨c2, w⟩ := w
    refine eb_iaload (pc := 208) rfl rfl c2 ?_
    obtain ⟨c3, w⟩ := w
    refine eb_iastore (pc := 209) rfl rfl c3 ?_
    refine eb_iinc (pc := 210) (i := 2) (n := 1) (v := x2 + 1) (ls2 := [(2, .int (x2 + 1)), (0, .ref s_MO)]) (Nat.le_of_ble_eq_true rfl) rfl rfl rfl rfl ?_
    refine eb_goto (pc := 213) (tgt := 191) rfl (by decide) ?_
    exact eb_pick [1, 0] rfl w
theorem T_X11_valley {d : Nat} {h : eb_H} {Q : Option Value → eb_H → Prop} (x1 : Int32)  (ko : eb_KO h) (w : eb_Ct d 156 [.long x1.toInt64, .long 0, .long ((eb_I (eb_sI h s_MO 0 0) s_MO 5).toInt64)] (eb_sI h s_MO 0 0) (fun r h1 => ∃ y2, r = some (.int y2) ∧ eb_KO h1 ∧ ((¬ y2 = 0 → eb_Ct d 158 [.ref s_m_fresh] (eb_sI (eb_sI (eb_sI (eb_sI h1 s_MO 8 x1) s_MO 5 0) s_MO 7 0) s_MO 11 0) (fun r h5 => r = none ∧ eb_KO h5 ∧ eb_Ct d 164 [.ref s_MO] h5 (fun r h8 => r = none ∧ eb_KO h8 ∧ eb_Ct d 167 [.ref s_MO, .int 0] h8 (fun r h11 => ∃ y12, r = some (.int y12) ∧ eb_KO h11 ∧ ((¬ y12 = 0 → eb_Ct d 168 [.ref s_MO, .int 1, .int 4] h11 (fun r h15 => ∃ y16, r = some (.int y16) ∧ eb_KO h15 ∧ eb_Ct d 168 [.ref s_MO, .int 1, .int 4] (eb_sI h15 s_m_fresh (1 : Int32).toNatClampNeg y16) (fun r h18 => ∃ y19, r = some (.int y19) ∧ eb_KO h18 ∧ eb_Ct d 167 [.ref s_MO, .int 1] (eb_sI h18 s_m_fresh (2 : Int32).toNatClampNeg y19) (fun r h21 => ∃ y22, r = some (.int y22) ∧ eb_KO h21 ∧ ((¬ y22 = 0 → eb_Ct d 168 [.ref s_MO, .int 1, .int 6] h21 (fun r h25 => ∃ y26, r = some (.int y26) ∧ eb_KO h25 ∧ eb_Ct d 187 [.ref s_MO] (eb_sI h25 s_m_fresh (3 : Int32).toNatClampNeg y26) (fun r h28 => r = none ∧ eb_KO h28 ∧ eb_Sn (d + 1) m_X11_valley h 120 [(0, .ref s_MO)] [] h28 Q))) ∧ (y22 = 0 → eb_Ct d 165 [.ref s_MO, .int 2] h21 (fun r h31 => r = none ∧ eb_KO h31 ∧ eb_Ct d 168 [.ref s_MO, .int 1, .int 6] h31 (fun r h34 => ∃ y35, r = some (.int y35) ∧ eb_KO h34 ∧ eb_Ct d 187 [.ref s_MO] (eb_sI h34 s_m_fresh (3 : Int32).toNatClampNeg y35) (fun r h37 => r = none ∧ eb_KO h37 ∧ eb_Sn (d + 1) m_X11_valley h 120 [(0, .ref s_MO)] [] h37 Q))))))))) ∧ (y12 = 0 → eb_Ct d 165 [.ref s_MO, .int 2] h11 (fun r h40 => r = none ∧ eb_KO h40 ∧ eb_Ct d 168 [.ref s_MO, .int 1, .int 4] h40 (fun r h43 => ∃ y44, r = some (.int y44) ∧ eb_KO h43 ∧ eb_Ct d 168 [.ref s_MO, .int 1, .int 4] (eb_sI h43 s_m_fresh (1 : Int32).toNatClampNeg y44) (fun r h46 => ∃ y47, r = some (.int y47) ∧ eb_KO h46 ∧ eb_Ct d 167 [.ref s_MO, .int 1] (eb_sI h46 s_m_fresh (2 : Int32).toNatClampNeg y47) (fun r h49 => ∃ y50, r = some (.int y50) ∧ eb_KO h49 ∧ ((¬ y50 = 0 → eb_Ct d 168 [.ref s_MO, .int 1, .int 6] h49 (fun r h53 => ∃ y54, r = some (.int y54) ∧ eb_KO h53 ∧ eb_Ct d 187 [.ref s_MO] (eb_sI h53 s_m_fresh (3 : Int32).toNatClampNeg y54) (fun r h56 => r = none ∧ eb_KO h56 ∧ eb_Sn (d + 1) m_X11_valley h 120 [(0, .ref s_MO)] [] h56 Q))) ∧ (y50 = 0 → eb_Ct d 165 [.ref s_MO, .int 2] h49 (fun r h59 => r = none ∧ eb_KO h59 ∧ eb_Ct d 168 [.ref s_MO, .int 1, .int 6] h59 (fun r h62 => ∃ y63, r = some (.int y63) ∧ eb_KO h62 ∧ eb_Ct d 187 [.ref s_MO] (eb_sI h62 s_m_fresh (3 : Int32).toNatClampNeg y63) (fun r h65 => r = none ∧ eb_KO h65 ∧ eb_Sn (d + 1) m_X11_valley h 120 [(0, .ref s_MO)] [] h65 Q))))))))))))))) ∧ (y2 = 0 → Q (some (.int (-3))) h1)))) : eb_Ct (d + 1) 188 [.ref s_MO, .int x1] h Q :=
  eb_bodyQ (by decide) ok_X11_valley (Nat.le_of_ble_eq_true rfl) (b_X11_valley_0 (h0 := h) x1  ko w)
theorem b_X11_fault_0 {d : Nat} {h0 h : eb_H} {Q : Option Value → eb_H → Prop} (x1 : Int32)  (ko : eb_KO h) (w : Q (some (.int (if x1 = 0 then eb_I (eb_sI h s_MO 0 0) s_MO 13 else (if x1 = (1 : Int32) then eb_I (eb_sI h s_MO 0 0) s_MO 14 else (-1)) : Int32))) (eb_sI h s_MO 0 0)) : eb_Sn d m_X11_fault h0 0 [(0, .ref s_MO), (1, .int x1)] [] h Q := by
  refine eb_aload_n (pc := 0) (n := 0) (i := 0) rfl rfl rfl ?_
  refine eb_iconst (pc := 1) (n := 0) (v := 0) rfl rfl ?_
  refine eb_putI (pc := 2) rfl rfl (by decide) (by decide) rfl rfl ⟨rfl, rfl⟩ ?_
  refine eb_iload_n (pc := 5) (n := 1) (i := 1) rfl rfl rfl ?_
  have jj3 : eb_Sn d m_X11_fault h0 29 [(0, .ref s_MO), (1, .int x1)] [.int (if x1 = 0 then eb_I (eb_sI h s_MO 0 0) s_MO 13 else (if x1 = (1 : Int32) then eb_I (eb_sI h s_MO 0 0) s_MO 14 else (-1)) : Int32)] (eb_sI h s_MO 0 0) Q := by
    exact eb_ireturn (pc := 29) rfl rfl rfl w
  refine eb_if_ne (pc := 6) (tgt := 16) rfl (by decide) (fun c1 => ?_) (fun c1 => ?_)
  · refine eb_iload_n (pc := 16) (n := 1) (i := 1) rfl rfl rfl ?_
    refine eb_iconst (pc := 17) (n := 1) (v := 1) rfl rfl ?_
    refine eb_icmp_ne (pc := 18) (tgt := 28) rfl (by decide) (fun c2 => ?_) (fun c2 => ?_)
    · refine eb_iconst (pc := 28) (n := -1) (v := (-1)) rfl rfl ?_
      simp only [if_neg c1, if_neg c2] at jj3 ⊢
      exact jj3
    · refine eb_aload_n (pc := 21) (n := 0) (i := 0) rfl rfl rfl ?_
      refine eb_getI (pc := 22) rfl rfl (by decide) (by decide) rfl ?_
      refine eb_goto (pc := 25) (tgt := 29) rfl (by decide) ?_
      simp only [if_neg c1, if_pos c2] at jj3 ⊢
      exact jj3
  · refine eb_aload_n (pc := 9) (n := 0) (i := 0) rfl rfl rfl ?_
    refine eb_getI (pc := 10) rfl rfl (by decide) (by decide) rfl ?_
    refine eb_goto (pc := 13) (tgt := 29) rfl (by decide) ?_
    simp only [if_pos c1] at jj3 ⊢
    exact jj3
theorem T_X11_fault {d : Nat} {h : eb_H} {Q : Option Value → eb_H → Prop} (x1 : Int32)  (ko : eb_KO h) (w : Q (some (.int (if x1 = 0 then eb_I (eb_sI h s_MO 0 0) s_MO 13 else (if x1 = (1 : Int32) then eb_I (eb_sI h s_MO 0 0) s_MO 14 else (-1)) : Int32))) (eb_sI h s_MO 0 0)) : eb_Ct d 189 [.ref s_MO, .int x1] h Q :=
  eb_bodyQ (by decide) ok_X11_fault (Nat.le_of_ble_eq_true rfl) (b_X11_fault_0 (h0 := h) x1  ko w)
theorem b_X11_cells_0 {d : Nat} {h0 h : eb_H} {Q : Option Value → eb_H → Prop}   (ko : eb_KO h) (w : Q (some (.int ((eb_I h s_m_all (1 : Int32).toNatClampNeg) * (eb_I h s_m_all (2 : Int32).toNatClampNeg)))) h) : eb_Sn d m_X11_cells h0 0 [(0, .ref s_MO)] [] h Q := by
  refine eb_aload_n (pc := 0) (n := 0) (i := 0) rfl rfl rfl ?_
  refine eb_getR (pc := 1) rfl rfl (by decide) (by decide) rfl (ko_s_MO_1 ko) ?_
  refine eb_iconst (pc := 4) (n := 1) (v := 1) rfl rfl ?_
  refine eb_iaload (pc := 5) rfl rfl (by unfold vp_in; decide) ?_
  refine eb_aload_n (pc := 6) (n := 0) (i := 0) rfl rfl rfl ?_
  refine eb_getR (pc := 7) rfl rfl (by decide) (by decide) rfl (ko_s_MO_1 ko) ?_
  refine eb_iconst (pc := 10) (n := 2) (v := 2) rfl rfl ?_
  refine eb_iaload (pc := 11) rfl rfl (by unfold vp_in; decide) ?_
  refine eb_imul (pc := 12) rfl ?_
  exact eb_ireturn (pc := 13) rfl rfl rfl w
theorem T_X11_cells {d : Nat} {h : eb_H} {Q : Option Value → eb_H → Prop}   (ko : eb_KO h) (w : Q (some (.int ((eb_I h s_m_all (1 : Int32).toNatClampNeg) * (eb_I h s_m_all (2 : Int32).toNatClampNeg)))) h) : eb_Ct d 190 [.ref s_MO] h Q :=
  eb_bodyQ (by decide) ok_X11_cells (Nat.le_of_ble_eq_true rfl) (b_X11_cells_0 (h0 := h)   ko w)
theorem b_X11_isCell_0 {d : Nat} {h0 h : eb_H} {Q : Option Value → eb_H → Prop} (x1 : Int64)  (ko : eb_KO h) (w : eb_Ct d 190 [.ref s_MO] h (fun r h1 => ∃ y2, r = some (.int y2) ∧ eb_KO h1 ∧ eb_Ct d 156 [.long x1, .long 0, .long ((y2 - 1).toInt64)] h1 (fun r h4 => ∃ y5, r = some (.int y5) ∧ eb_KO h4 ∧ (narrow .boolean (.int y5) = .int y5) ∧ Q (some (.int y5)) h4))) : eb_Sn (d + 1) m_X11_isCell h0 0 [(0, .ref s_MO), (1, .long x1)] [] h Q := by
  refine eb_lload_n (pc := 0) (n := 1) (i := 1) rfl rfl rfl ?_
  refine eb_lconst (pc := 1) (n := 0) (v := 0) rfl rfl ?_
  refine eb_aload_n (pc := 2) (n := 0) (i := 0) rfl rfl rfl ?_
  refine eb_ctV (pc := 3) (As := []) (rest := [.long 0, .long x1]) rfl (by decide) rfl rfl (by decide) rfl (Nat.le_of_ble_eq_true rfl) ?_
  refine eb_Ct.mono w ?_
  rintro r h1 ⟨y2, rfl, ko3, w⟩
  change eb_Sn _ _ _ 6 _ [.int y2, .long 0, .long x1] _ _
  refine eb_iconst (pc := 6) (n := 1) (v := 1) rfl rfl ?_
  refine eb_isub (pc := 7) rfl ?_
  refine eb_i2l (pc := 8) rfl ?_
  refine eb_ctS (pc := 9) (As := [.long x1, .long 0, .long ((y2 - 1).toInt64)]) (rest := []) rfl (by decide) (by decide) rfl rfl (Nat.le_of_ble_eq_true rfl) ?_
  refine eb_Ct.mono w ?_
  rintro r h4 ⟨y5, rfl, ko6, w⟩
  change eb_Sn _ _ _ 12 _ [.int y5] _ _
  obtain ⟨c7, w⟩ := w
  exact eb_ireturn (pc := 12) rfl rfl c7 w
theorem T_X11_isCell {d : Nat} {h : eb_H} {Q : Option Value → eb_H → Prop} (x1 : Int64)  (ko : eb_KO h) (w : eb_Ct d 190 [.ref s_MO] h (fun r h1 => ∃ y2, r = some (.int y2) ∧ eb_KO h1 ∧ eb_Ct d 156 [.long x1, .long 0, .long ((y2 - 1).toInt64)] h1 (fun r h4 => ∃ y5, r = some (.int y5) ∧ eb_KO h4 ∧ (narrow .boolean (.int y5) = .int y5) ∧ Q (some (.int y5)) h4))) : eb_Ct (d + 1) 191 [.ref s_MO, .long x1] h Q :=
  eb_bodyQ (by decide) ok_X11_isCell (Nat.le_of_ble_eq_true rfl) (b_X11_isCell_0 (h0 := h) x1  ko w)
theorem b_X11_isHouse_0 {d : Nat} {h0 h : eb_H} {Q : Option Value → eb_H → Prop} (x1 : Int32)  (ko : eb_KO h) (w : eb_Ct d 156 [.long x1.toInt64, .long 0, .long (((eb_I h s_m_all (4 : Int32).toNatClampNeg) - 1).toInt64)] h (fun r h1 => ∃ y2, r = some (.int y2) ∧ eb_KO h1 ∧ (narrow .boolean (.int y2) = .int y2) ∧ Q (some (.int y2)) h1)) : eb_Sn (d + 1) m_X11_isHouse h0 0 [(0, .ref s_MO), (1, .int x1)] [] h Q := by
  refine eb_iload_n (pc := 0) (n := 1) (i := 1) rfl rfl rfl ?_
  refine eb_i2l (pc := 1) rfl ?_
  refine eb_lconst (pc := 2) (n := 0) (v := 0) rfl rfl ?_
  refine eb_aload_n (pc := 3) (n := 0) (i := 0) rfl rfl rfl ?_
  refine eb_getR (pc := 4) rfl rfl (by decide) (by decide) rfl (ko_s_MO_1 ko) ?_
  refine eb_iconst (pc := 7) (n := 4) (v := 4) rfl rfl ?_
  refine eb_iaload (pc := 8) rfl rfl (by unfold vp_in; decide) ?_
  refine eb_iconst (pc := 9) (n := 1) (v := 1) rfl rfl ?_
  refine eb_isub (pc := 10) rfl ?_
  refine eb_i2l (pc := 11) rfl ?_
  refine eb_ctS (pc := 12) (As := [.long x1.toInt64, .long 0, .long (((eb_I h s_m_all (4 : Int32).toNatClampNeg) - 1).toInt64)]) (rest := []) rfl (by decide) (by decide) rfl rfl (Nat.le_of_ble_eq_true rfl) ?_
  refine eb_Ct.mono w ?_
  rintro r h1 ⟨y2, rfl, ko3, w⟩
  change eb_Sn _ _ _ 15 _ [.int y2] _ _
  obtain ⟨c4, w⟩ := w
  exact eb_ireturn (pc := 15) rfl rfl c4 w
theorem T_X11_isHouse {d : Nat} {h : eb_H} {Q : Option Value → eb_H → Prop} (x1 : Int32)  (ko : eb_KO h) (w : eb_Ct d 156 [.long x1.toInt64, .long 0, .long (((eb_I h s_m_all (4 : Int32).toNatClampNeg) - 1).toInt64)] h (fun r h1 => ∃ y2, r = some (.int y2) ∧ eb_KO h1 ∧ (narrow .boolean (.int y2) = .int y2) ∧ Q (some (.int y2)) h1)) : eb_Ct (d + 1) 192 [.ref s_MO, .int x1] h Q :=
  eb_bodyQ (by decide) ok_X11_isHouse (Nat.le_of_ble_eq_true rfl) (b_X11_isHouse_0 (h0 := h) x1  ko w)
theorem b_X11_isEchoes_0 {d : Nat} {h0 h : eb_H} {Q : Option Value → eb_H → Prop} (x0 : Int32)  (ko : eb_KO h) (w : eb_Ct d 156 [.long x0.toInt64, .long 0, .long 63] h (fun r h1 => ∃ y2, r = some (.int y2) ∧ eb_KO h1 ∧ (narrow .boolean (.int y2) = .int y2) ∧ Q (some (.int y2)) h1)) : eb_Sn (d + 1) m_X11_isEchoes h0 0 [(0, .int x0)] [] h Q := by
  refine eb_iload_n (pc := 0) (n := 0) (i := 0) rfl rfl rfl ?_
  refine eb_i2l (pc := 1) rfl ?_
  refine eb_lconst (pc := 2) (n := 0) (v := 0) rfl rfl ?_
  refine eb_ldc2 (pc := 3) (a := 63) (v := 63) rfl (by decide) ?_
  refine eb_ctS (pc := 6) (As := [.long x0.toInt64, .long 0, .long 63]) (rest := []) rfl (by decide) (by decide) rfl rfl (Nat.le_of_ble_eq_true rfl) ?_
  refine eb_Ct.mono w ?_
  rintro r h1 ⟨y2, rfl, ko3, w⟩
  change eb_Sn _ _ _ 9 _ [.int y2] _ _
  obtain ⟨c4, w⟩ := w
  exact eb_ireturn (pc := 9) rfl rfl c4 w
theorem T_X11_isEchoes {d : Nat} {h : eb_H} {Q : Option Value → eb_H → Prop} (x0 : Int32)  (ko : eb_KO h) (w : eb_Ct d 156 [.long x0.toInt64, .long 0, .long 63] h (fun r h1 => ∃ y2, r = some (.int y2) ∧ eb_KO h1 ∧ (narrow .boolean (.int y2) = .int y2) ∧ Q (some (.int y2)) h1)) : eb_Ct (d + 1) 193 [.int x0] h Q :=
  eb_bodyQ (by decide) ok_X11_isEchoes (Nat.le_of_ble_eq_true rfl) (b_X11_isEchoes_0 (h0 := h) x0  ko w)
theorem b_X11_bitsOf_0 {d : Nat} {h0 h : eb_H} {Q : Option Value → eb_H → Prop} (x0 : Int32)  (ko : eb_KO h) (w : eb_Sn d m_X11_bitsOf h0 4 [(0, .int x0), (1, .int 0), (2, .int 0)] [] h Q) : eb_Sn d m_X11_bitsOf h0 0 [(0, .int x0)] [] h Q := by
  refine eb_iconst (pc := 0) (n := 0) (v := 0) rfl rfl ?_
  refine eb_istore_n (pc := 1) (n := 1) (i := 1) (ls2 := [(1, .int 0), (0, .int x0)]) rfl (Nat.le_of_ble_eq_true rfl) rfl rfl ?_
  refine eb_iconst (pc := 2) (n := 0) (v := 0) rfl rfl ?_
  refine eb_istore_n (pc := 3) (n := 2) (i := 2) (ls2 := [(2, .int 0), (1, .int 0), (0, .int x0)]) rfl (Nat.le_of_ble_eq_true rfl) rfl rfl ?_
  exact eb_pick [2, 1, 0] rfl w
theorem b_X11_bitsOf_4 {d : Nat} {h0 h : eb_H} {Q : Option Value → eb_H → Prop} (x0 : Int32) (x1 : Int32) (x2 : Int32)  (ko : eb_KO h) (w : (((10 : Int32) ≤ x2 → Q (some (.int x1)) h) ∧ (¬ ((10 : Int32) ≤ x2) → eb_Sn d m_X11_bitsOf h0 4 [(0, .int x0), (1, .int (x1 + ((x0 >>> (x2 &&& 31)) &&& 1))), (2, .int (x2 + 1))] [] h Q))) : eb_Sn d m_X11_bitsOf h0 4 [(0, .int x0), (1, .int x1), (2, .int x2)] [] h Q := by
  refine eb_iload_n (pc := 4) (n := 2) (i := 2) rfl rfl rfl ?_
  refine eb_bipush (pc := 5) (n := 10) (v := 10) rfl rfl ?_
  refine eb_icmp_ge (pc := 7) (tgt := 24) rfl (by decide) (fun c1 => ?_) (fun c1 => ?_)
  · replace w := w.1 c1
    refine eb_iload_n (pc := 24) (n := 1) (i := 1) rfl rfl rfl ?_
    exact eb_ireturn (pc := 25) rfl rfl rfl w
  · replace w := w.2 c1
    refine eb_iload_n (pc := 10) (n := 1) (i := 1) rfl rfl rfl ?_
    refine eb_iload_n (pc := 11) (n := 0) (i := 0) rfl rfl rfl ?_
    refine eb_iload_n (pc := 12) (n := 2) (i := 2) rfl rfl rfl ?_
    refine eb_ishr (pc := 13) rfl ?_
    refine eb_iconst (pc := 14) (n := 1) (v := 1) rfl rfl ?_
    refine eb_iand (pc := 15) rfl ?_
    refine eb_iadd (pc := 16) rfl ?_
    refine eb_istore_n (pc := 17) (n := 1) (i := 1) (ls2 := [(1, .int (x1 + ((x0 >>> (x2 &&& 31)) &&& 1))), (0, .int x0), (2, .int x2)]) rfl (Nat.le_of_ble_eq_true rfl) rfl rfl ?_
    refine eb_iinc (pc := 18) (i := 2) (n := 1) (v := x2 + 1) (ls2 := [(2, .int (x2 + 1)), (1, .int (x1 + ((x0 >>> (x2 &&& 31)) &&& 1))), (0, .int x0)]) (Nat.le_of_ble_eq_true rfl) rfl rfl rfl rfl ?_
    refine eb_goto (pc := 21) (tgt := 4) rfl (by decide) ?_
    exact eb_pick [2, 1, 0] rfl w
theorem T_X11_bitsOf {d : Nat} {h : eb_H} {Q : Option Value → eb_H → Prop} (x0 : Int32)  (ko : eb_KO h) (w : eb_Sn d m_X11_bitsOf h 4 [(0, .int x0), (1, .int 0), (2, .int 0)] [] h Q) : eb_Ct d 194 [.int x0] h Q :=
  eb_bodyQ (by decide) ok_X11_bitsOf (Nat.le_of_ble_eq_true rfl) (b_X11_bitsOf_0 (h0 := h) x0  ko w)
theorem b_X11_standNow_0 {d : Nat} {h0 h : eb_H} {Q : Option Value → eb_H → Prop}   (ko : eb_KO h) (w : Q (some (.int (((64 : Int32) * (eb_I h s_m_all (31 : Int32).toNatClampNeg)) + (eb_I h s_m_all (32 : Int32).toNatClampNeg)))) h) : eb_Sn d m_X11_standNow h0 0 [(0, .ref s_MO)] [] h Q := by
  refine eb_bipush (pc := 0) (n := 64) (v := 64) rfl rfl ?_
  refine eb_aload_n (pc := 2) (n := 0) (i := 0) rfl rfl rfl ?_
  refine eb_getR (pc := 3) rfl rfl (by decide) (by decide) rfl (ko_s_MO_1 ko) ?_
  refine eb_bipush (pc := 6) (n := 31) (v := 31) rfl rfl ?_
  refine eb_iaload (pc := 8) rfl rfl (by unfold vp_in; decide) ?_
  refine eb_imul (pc := 9) rfl ?_
  refine eb_aload_n (pc := 10) (n := 0) (i := 0) rfl rfl rfl ?_
  refine eb_getR (pc := 11) rfl rfl (by decide) (by decide) rfl (ko_s_MO_1 ko) ?_
  refine eb_bipush (pc := 14) (n := 32) (v := 32) rfl rfl ?_
  refine eb_iaload (pc := 16) rfl rfl (by unfold vp_in; decide) ?_
  refine eb_iadd (pc := 17) rfl ?_
  exact eb_ireturn (pc := 18) rfl rfl rfl w
theorem T_X11_standNow {d : Nat} {h : eb_H} {Q : Option Value → eb_H → Prop}   (ko : eb_KO h) (w : Q (some (.int (((64 : Int32) * (eb_I h s_m_all (31 : Int32).toNatClampNeg)) + (eb_I h s_m_all (32 : Int32).toNatClampNeg)))) h) : eb_Ct d 195 [.ref s_MO] h Q :=
  eb_bodyQ (by decide) ok_X11_standNow (Nat.le_of_ble_eq_true rfl) (b_X11_standNow_0 (h0 := h)   ko w)
theorem b_X11_cellBy_0 {d : Nat} {h0 h : eb_H} {Q : Option Value → eb_H → Prop} (x1 : Int32) (x2 : Int32)  (ko : eb_KO h) (w : (¬ (eb_I h s_m_all (2 : Int32).toNatClampNeg) = 0) ∧ (¬ (eb_I h s_m_all (2 : Int32).toNatClampNeg) = 0) ∧ ((x2 = 0 → Q (some (.int (if (x1 / (eb_I h s_m_all (2 : Int32).toNatClampNeg)) = 0 then (-1) else x1 - (eb_I h s_m_all (2 : Int32).toNatClampNeg) : Int32))) h) ∧ (x2 = 1 → Q (some (.int (if (x1 - x1 / (eb_I h s_m_all (2 : Int32).toNatClampNeg) * (eb_I h s_m_all (2 : Int32).toNatClampNeg)) = ((eb_I h s_m_all (2 : Int32).toNatClampNeg) - 1) then (-1) else x1 + 1 : Int32))) h) ∧ (x2 = 2 → Q (some (.int (if (x1 / (eb_I h s_m_all (2 : Int32).toNatClampNeg)) = ((eb_I h s_m_all (1 : Int32).toNatClampNeg) - 1) then (-1) else x1 + (eb_I h s_m_all (2 : Int32).toNatClampNeg) : Int32))) h) ∧ (¬ x2 = 0 → ¬ x2 = 1 → ¬ x2 = 2 → Q (some (.int (if (x1 - x1 / (eb_I h s_m_all (2 : Int32).toNatClampNeg) * (eb_I h s_m_all (2 : Int32).toNatClampNeg)) = 0 then (-1) else x1 - 1 : Int32))) h))) : eb_Sn d m_X11_cellBy h0 0 [(0, .ref s_MO), (1, .int x1), (2, .int x2)] [] h Q := by
  refine eb_iload_n (pc := 0) (n := 1) (i := 1) rfl rfl rfl ?_
  refine eb_aload_n (pc := 1) (n := 0) (i := 0) rfl rfl rfl ?_
  refine eb_getR (pc := 2) rfl rfl (by decide) (by decide) rfl (ko_s_MO_1 ko) ?_
  refine eb_iconst (pc := 5) (n := 2) (v := 2) rfl rfl ?_
  refine eb_iaload (pc := 6) rfl rfl (by unfold vp_in; decide) ?_
  obtain ⟨c1, w⟩ := w
  refine eb_idiv (pc := 7) c1 rfl ?_
  refine eb_istore_n (pc := 8) (n := 3) (i := 3) (ls2 := [(3, .int (x1 / (eb_I h s_m_all (2 : Int32).toNatClampNeg))), (0, .ref s_MO), (1, .int x1), (2, .int x2)]) rfl (Nat.le_of_ble_eq_true rfl) rfl rfl ?_
  refine eb_iload_n (pc := 9) (n := 1) (i := 1) rfl rfl rfl ?_
  refine eb_aload_n (pc := 10) (n := 0) (i := 0) rfl rfl rfl ?_
  refine eb_getR (pc := 11) rfl rfl (by decide) (by decide) rfl (ko_s_MO_1 ko) ?_
  refine eb_iconst (pc := 14) (n := 2) (v := 2) rfl rfl ?_
  refine eb_iaload (pc := 15) rfl rfl (by unfold vp_in; decide) ?_
  obtain ⟨c2, w⟩ := w
  refine eb_irem (pc := 16) c2 rfl ?_
  refine eb_istore (pc := 17) (i := 4) (ls2 := [(4, .int (x1 - x1 / (eb_I h s_m_all (2 : Int32).toNatClampNeg) * (eb_I h s_m_all (2 : Int32).toNatClampNeg))), (3, .int (x1 / (eb_I h s_m_all (2 : Int32).toNatClampNeg))), (0, .ref s_MO), (1, .int x1), (2, .int x2)]) (Nat.le_of_ble_eq_true rfl) rfl rfl ?_
  refine eb_iload_n (pc := 19) (n := 2) (i := 2) rfl rfl rfl ?_
  by_cases s0 : x2 = 0
  · refine eb_tableIn (pc := 20) (j := 0) (tgt := 48) (by rw [s0]; decide) (by decide) (by rfl) (by decide) rfl ?_
    replace w := w.1 s0
    refine eb_iload_n (pc := 48) (n := 3) (i := 3) rfl rfl rfl ?_
    have jj4 : eb_Sn d m_X11_cellBy h0 64 [(4, .int (x1 - x1 / (eb_I h s_m_all (2 : Int32).toNatClampNeg) * (eb_I h s_m_all (2 : Int32).toNatClampNeg))), (3, .int (x1 / (eb_I h s_m_all (2 : Int32).toNatClampNeg))), (0, .ref s_MO), (1, .int x1), (2, .int x2)] [.int (if (x1 / (eb_I h s_m_all (2 : Int32).toNatClampNeg)) = 0 then (-1) else x1 - (eb_I h s_m_all (2 : Int32).toNatClampNeg) : Int32)] h Q := by
      exact eb_ireturn (pc := 64) rfl rfl rfl w
    refine eb_if_ne (pc := 49) (tgt := 56) rfl (by decide) (fun c3 => ?_) (fun c3 => ?_)
    · refine eb_iload_n (pc := 56) (n := 1) (i := 1) rfl rfl rfl ?_
      refine eb_aload_n (pc := 57) (n := 0) (i := 0) rfl rfl rfl ?_
      refine eb_getR (pc := 58) rfl rfl (by decide) (by decide) rfl (ko_s_MO_1 ko) ?_
      refine eb_iconst (pc := 61) (n := 2) (v := 2) rfl rfl ?_
      refine eb_iaload (pc := 62) rfl rfl (by unfold vp_in; decide) ?_
      refine eb_isub (pc := 63) rfl ?_
      simp only [if_neg c3] at jj4 ⊢
      exact jj4
    · refine eb_iconst (pc := 52) (n := -1) (v := (-1)) rfl rfl ?_
      refine eb_goto (pc := 53) (tgt := 64) rfl (by decide) ?_
      simp only [if_pos c3] at jj4 ⊢
      exact jj4
  by_cases s1 : x2 = 1
  · refine eb_tableIn (pc := 20) (j := 1) (tgt := 65) (by rw [s1]; decide) (by decide) (by rfl) (by decide) rfl ?_
    replace w := w.2.1 s1
    refine eb_iload (pc := 65) (i := 4) rfl rfl ?_
    refine eb_aload_n (pc := 67) (n := 0) (i := 0) rfl rfl rfl ?_
    refine eb_getR (pc := 68) rfl rfl (by decide) (by decide) rfl (ko_s_MO_1 ko) ?_
    refine eb_iconst (pc := 71) (n := 2) (v := 2) rfl rfl ?_
    refine eb_iaload (pc := 72) rfl rfl (by unfold vp_in; decide) ?_
    refine eb_iconst (pc := 73) (n := 1) (v := 1) rfl rfl ?_
    refine eb_isub (pc := 74) rfl ?_
    have jj6 : eb_Sn d m_X11_cellBy h0 85 [(4, .int (x1 - x1 / (eb_I h s_m_all (2 : Int32).toNatClampNeg) * (eb_I h s_m_all (2 : Int32).toNatClampNeg))), (3, .int (x1 / (eb_I h s_m_all (2 : Int32).toNatClampNeg))), (0, .ref s_MO), (1, .int x1), (2, .int x2)] [.int (if (x1 - x1 / (eb_I h s_m_all (2 : Int32).toNatClampNeg) * (eb_I h s_m_all (2 : Int32).toNatClampNeg)) = ((eb_I h s_m_all (2 : Int32).toNatClampNeg) - 1) then (-1) else x1 + 1 : Int32)] h Q := by
      exact eb_ireturn (pc := 85) rfl rfl rfl w
    refine eb_icmp_ne (pc := 75) (tgt := 82) rfl (by decide) (fun c5 => ?_) (fun c5 => ?_)
    · refine eb_iload_n (pc := 82) (n := 1) (i := 1) rfl rfl rfl ?_
      refine eb_iconst (pc := 83) (n := 1) (v := 1) rfl rfl ?_
      refine eb_iadd (pc := 84) rfl ?_
      simp only [if_neg c5] at jj6 ⊢
      exact jj6
    · refine eb_iconst (pc := 78) (n := -1) (v := (-1)) rfl rfl ?_
      refine eb_goto (pc := 79) (tgt := 85) rfl (by decide) ?_
      simp only [if_pos c5] at jj6 ⊢
      exact jj6
  by_cases s2 : x2 = 2
  · refine eb_tableIn (pc := 20) (j := 2) (tgt := 86) (by rw [s2]; decide) (by decide) (by rfl) (by decide) rfl ?_
    replace w := w.2.2.1 s2
    refine eb_iload_n (pc := 86) (n := 3) (i := 3) rfl rfl rfl ?_
    refine eb_aload_n (pc := 87) (n := 0) (i := 0) rfl rfl rfl ?_
    refine eb_getR (pc := 88) rfl rfl (by decide) (by decide) rfl (ko_s_MO_1 ko) ?_
    refine eb_iconst (pc := 91) (n := 1) (v := 1) rfl rfl ?_
    refine eb_iaload (pc := 92) rfl rfl (by unfold vp_in; decide) ?_
    refine eb_iconst (pc := 93) (n := 1) (v := 1) rfl rfl ?_
    refine eb_isub (pc := 94) rfl ?_
    have jj8 : eb_Sn d m_X11_cellBy h0 110 [(4, .int (x1 - x1 / (eb_I h s_m_all (2 : Int32).toNatClampNeg) * (eb_I h s_m_all (2 : Int32).toNatClampNeg))), (3, .int (x1 / (eb_I h s_m_all (2 : Int32).toNatClampNeg))), (0, .ref s_MO), (1, .int x1), (2, .int x2)] [.int (if (x1 / (eb_I h s_m_all (2 : Int32).toNatClampNeg)) = ((eb_I h s_m_all (1 : Int32).toNatClampNeg) - 1) then (-1) else x1 + (eb_I h s_m_all (2 : Int32).toNatClampNeg) : Int32)] h Q := by
      exact eb_ireturn (pc := 110) rfl rfl rfl w
    refine eb_icmp_ne (pc := 95) (tgt := 102) rfl (by decide) (fun c7 => ?_) (fun c7 => ?_)
    · refine eb_iload_n (pc := 102) (n := 1) (i := 1) rfl rfl rfl ?_
      refine eb_aload_n (pc := 103) (n := 0) (i := 0) rfl rfl rfl ?_
      refine eb_getR (pc := 104) rfl rfl (by decide) (by decide) rfl (ko_s_MO_1 ko) ?_
      refine eb_iconst (pc := 107) (n := 2) (v := 2) rfl rfl ?_
      refine eb_iaload (pc := 108) rfl rfl (by unfold vp_in; decide) ?_
      refine eb_iadd (pc := 109) rfl ?_
      simp only [if_neg c7] at jj8 ⊢
      exact jj8
    · refine eb_iconst (pc := 98) (n := -1) (v := (-1)) rfl rfl ?_
      refine eb_goto (pc := 99) (tgt := 110) rfl (by decide) ?_
      simp only [if_pos c7] at jj8 ⊢
      exact jj8
  refine eb_tableOut (pc := 20) (tgt := 111) (by have z0 := lv_neT (a := 0) s0 (by decide); have z1 := lv_neT (a := 1) s1 (by decide); have z2 := lv_neT (a := 2) s2 (by decide); omega) (by decide) rfl ?_
  replace w := w.2.2.2 s0 s1 s2
  refine eb_iload (pc := 111) (i := 4) rfl rfl ?_
  have jj10 : eb_Sn d m_X11_cellBy h0 123 [(4, .int (x1 - x1 / (eb_I h s_m_all (2 : Int32).toNatClampNeg) * (eb_I h s_m_all (2 : Int32).toNatClampNeg))), (3, .int (x1 / (eb_I h s_m_all (2 : Int32).toNatClampNeg))), (0, .ref s_MO), (1, .int x1), (2, .int x2)] [.int (if (x1 - x1 / (eb_I h s_m_all (2 : Int32).toNatClampNeg) * (eb_I h s_m_all (2 : Int32).toNatClampNeg)) = 0 then (-1) else x1 - 1 : Int32)] h Q := by
    exact eb_ireturn (pc := 123) rfl rfl rfl w
  refine eb_if_ne (pc := 113) (tgt := 120) rfl (by decide) (fun c9 => ?_) (fun c9 => ?_)
  · refine eb_iload_n (pc := 120) (n := 1) (i := 1) rfl rfl rfl ?_
    refine eb_iconst (pc := 121) (n := 1) (v := 1) rfl rfl ?_
    refine eb_isub (pc := 122) rfl ?_
    simp only [if_neg c9] at jj10 ⊢
    exact jj10
  · refine eb_iconst (pc := 116) (n := -1) (v := (-1)) rfl rfl ?_
    refine eb_goto (pc := 117) (tgt := 123) rfl (by decide) ?_
    simp only [if_pos c9] at jj10 ⊢
    exact jj10
theorem T_X11_cellBy {d : Nat} {h : eb_H} {Q : Option Value → eb_H → Prop} (x1 : Int32) (x2 : Int32)  (ko : eb_KO h) (w : (¬ (eb_I h s_m_all (2 : Int32).toNatClampNeg) = 0) ∧ (¬ (eb_I h s_m_all (2 : Int32).toNatClampNeg) = 0) ∧ ((x2 = 0 → Q (some (.int (if (x1 / (eb_I h s_m_all (2 : Int32).toNatClampNeg)) = 0 then (-1) else x1 - (eb_I h s_m_all (2 : Int32).toNatClampNeg) : Int32))) h) ∧ (x2 = 1 → Q (some (.int (if (x1 - x1 / (eb_I h s_m_all (2 : Int32).toNatClampNeg) * (eb_I h s_m_all (2 : Int32).toNatClampNeg)) = ((eb_I h s_m_all (2 : Int32).toNatClampNeg) - 1) then (-1) else x1 + 1 : Int32))) h) ∧ (x2 = 2 → Q (some (.int (if (x1 / (eb_I h s_m_all (2 : Int32).toNatClampNeg)) = ((eb_I h s_m_all (1 : Int32).toNatClampNeg) - 1) then (-1) else x1 + (eb_I h s_m_all (2 : Int32).toNatClampNeg) : Int32))) h) ∧ (¬ x2 = 0 → ¬ x2 = 1 → ¬ x2 = 2 → Q (some (.int (if (x1 - x1 / (eb_I h s_m_all (2 : Int32).toNatClampNeg) * (eb_I h s_m_all (2 : Int32).toNatClampNeg)) = 0 then (-1) else x1 - 1 : Int32))) h))) : eb_Ct d 196 [.ref s_MO, .int x1, .int x2] h Q :=
  eb_bodyQ (by decide) ok_X11_cellBy (Nat.le_of_ble_eq_true rfl) (b_X11_cellBy_0 (h0 := h) x1 x2  ko w)
theorem b_X11_between_0 {d : Nat} {h0 h : eb_H} {Q : Option Value → eb_H → Prop} (x0 : Int32) (x1 : Int32) (x2 : Int32)  (ko : eb_KO h) (w : ((x0 = 3003 → Q (some (.int (if x1 = x2 then 1 else 0 : Int32))) h) ∧ (x0 = 3004 → Q (some (.int (if x2 ≤ x1 then 0 else 1 : Int32))) h) ∧ (x0 = 3005 → Q (some (.int (if x1 ≤ x2 then 0 else 1 : Int32))) h) ∧ (x0 = 3007 → Q (some (.int (x1 &&& x2))) h) ∧ (x0 = 3008 → Q (some (.int (x1 ||| x2))) h) ∧ (¬ x0 = 3003 → ¬ x0 = 3004 → ¬ x0 = 3005 → ¬ x0 = 3007 → ¬ x0 = 3008 → Q (some (.int ((if (if x0 = (3000 : Int32) then x1.toInt64 + x2.toInt64 else (if x0 = (3001 : Int32) then x1.toInt64 - x2.toInt64 else x1.toInt64 * x2.toInt64) : Int64) ≤ 1000000 then (if (-1000000) ≤ (if x0 = (3000 : Int32) then x1.toInt64 + x2.toInt64 else (if x0 = (3001 : Int32) then x1.toInt64 - x2.toInt64 else x1.toInt64 * x2.toInt64) : Int64) then (if x0 = (3000 : Int32) then x1.toInt64 + x2.toInt64 else (if x0 = (3001 : Int32) then x1.toInt64 - x2.toInt64 else x1.toInt64 * x2.toInt64) : Int64) else (-1000000)) else 1000000 : Int64).toInt32))) h))) : eb_Sn d m_X11_between h0 0 [(0, .int x0), (1, .int x1), (2, .int x2)] [] h Q := by
  refine eb_iload_n (pc := 0) (n := 0) (i := 0) rfl rfl rfl ?_
  by_cases s0 : x0 = 3003
  · refine eb_tableIn (pc := 1) (j := 0) (tgt := 40) (by rw [s0]; decide) (by decide) (by rfl) (by decide) rfl ?_
    replace w := w.1 s0
    refine eb_iload_n (pc := 40) (n := 1) (i := 1) rfl rfl rfl ?_
    refine eb_iload_n (pc := 41) (n := 2) (i := 2) rfl rfl rfl ?_
    have jj2 : eb_Sn d m_X11_between h0 50 [(0, .int x0), (1, .int x1), (2, .int x2)] [.int (if x1 = x2 then 1 else 0 : Int32)] h Q := by
      exact eb_ireturn (pc := 50) rfl rfl rfl w
    refine eb_icmp_ne (pc := 42) (tgt := 49) rfl (by decide) (fun c1 => ?_) (fun c1 => ?_)
    · refine eb_iconst (pc := 49) (n := 0) (v := 0) rfl rfl ?_
      simp only [if_neg c1] at jj2 ⊢
      exact jj2
    · refine eb_iconst (pc := 45) (n := 1) (v := 1) rfl rfl ?_
      refine eb_goto (pc := 46) (tgt := 50) rfl (by decide) ?_
      simp only [if_pos c1] at jj2 ⊢
      exact jj2
  by_cases s1 : x0 = 3004
  · refine eb_tableIn (pc := 1) (j := 1) (tgt := 51) (by rw [s1]; decide) (by decide) (by rfl) (by decide) rfl ?_
    replace w := w.2.1 s1
    refine eb_iload_n (pc := 51) (n := 1) (i := 1) rfl rfl rfl ?_
    refine eb_iload_n (pc := 52) (n := 2) (i := 2) rfl rfl rfl ?_
    have jj4 : eb_Sn d m_X11_between h0 61 [(0, .int x0), (1, .int x1), (2, .int x2)] [.int (if x2 ≤ x1 then 0 else 1 : Int32)] h Q := by
      exact eb_ireturn (pc := 61) rfl rfl rfl w
    refine eb_icmp_ge (pc := 53) (tgt := 60) rfl (by decide) (fun c3 => ?_) (fun c3 => ?_)
    · refine eb_iconst (pc := 60) (n := 0) (v := 0) rfl rfl ?_
      simp only [if_pos c3] at jj4 ⊢
      exact jj4
    · refine eb_iconst (pc := 56) (n := 1) (v := 1) rfl rfl ?_
      refine eb_goto (pc := 57) (tgt := 61) rfl (by decide) ?_
      simp only [if_neg c3] at jj4 ⊢
      exact jj4
  by_cases s2 : x0 = 3005
  · refine eb_tableIn (pc := 1) (j := 2) (tgt := 62) (by rw [s2]; decide) (by decide) (by rfl) (by decide) rfl ?_
    replace w := w.2.2.1 s2
    refine eb_iload_n (pc := 62) (n := 1) (i := 1) rfl rfl rfl ?_
    refine eb_iload_n (pc := 63) (n := 2) (i := 2) rfl rfl rfl ?_
    have jj6 : eb_Sn d m_X11_between h0 72 [(0, .int x0), (1, .int x1), (2, .int x2)] [.int (if x1 ≤ x2 then 0 else 1 : Int32)] h Q := by
      exact eb_ireturn (pc := 72) rfl rfl rfl w
    refine eb_icmp_le (pc := 64) (tgt := 71) rfl (by decide) (fun c5 => ?_) (fun c5 => ?_)
    · refine eb_iconst (pc := 71) (n := 0) (v := 0) rfl rfl ?_
      simp only [if_pos c5] at jj6 ⊢
      exact jj6
    · refine eb_iconst (pc := 67) (n := 1) (v := 1) rfl rfl ?_
      refine eb_goto (pc := 68) (tgt := 72) rfl (by decide) ?_
      simp only [if_neg c5] at jj6 ⊢
      exact jj6
  by_cases s3 : x0 = 3006
  · refine eb_tableIn (pc := 1) (j := 3) (tgt := 81) (by rw [s3]; decide) (by decide) (by rfl) (by decide) rfl ?_
    replace w := w.2.2.2.2.2 (by rw [s3]; decide) (by rw [s3]; decide) (by rw [s3]; decide) (by rw [s3]; decide) (by rw [s3]; decide)
    refine eb_iload_n (pc := 81) (n := 0) (i := 0) rfl rfl rfl ?_
    refine eb_sipush (pc := 82) (n := 3000) (v := 3000) rfl rfl ?_
    have jj12 : eb_Sn d m_X11_between h0 116 [(0, .int x0), (1, .int x1), (2, .int x2)] [.long (if x0 = (3000 : Int32) then x1.toInt64 + x2.toInt64 else (if x0 = (3001 : Int32) then x1.toInt64 - x2.toInt64 else x1.toInt64 * x2.toInt64) : Int64)] h Q := by
      refine eb_lstore_n (pc := 116) (n := 3) (i := 3) (ls2 := [(3, .long (if x0 = (3000 : Int32) then x1.toInt64 + x2.toInt64 else (if x0 = (3001 : Int32) then x1.toInt64 - x2.toInt64 else x1.toInt64 * x2.toInt64) : Int64)), (0, .int x0), (1, .int x1), (2, .int x2)]) rfl (Nat.le_of_ble_eq_true rfl) rfl rfl ?_
      refine eb_lload_n (pc := 117) (n := 3) (i := 3) rfl rfl rfl ?_
      refine eb_ldc2 (pc := 118) (a := 1000000) (v := 1000000) rfl (by decide) ?_
      refine eb_lcmp (pc := 121) rfl ?_
      have jj11 : eb_Sn d m_X11_between h0 146 [(3, .long (if x0 = (3000 : Int32) then x1.toInt64 + x2.toInt64 else (if x0 = (3001 : Int32) then x1.toInt64 - x2.toInt64 else x1.toInt64 * x2.toInt64) : Int64)), (0, .int x0), (1, .int x1), (2, .int x2)] [.long (if (if x0 = (3000 : Int32) then x1.toInt64 + x2.toInt64 else (if x0 = (3001 : Int32) then x1.toInt64 - x2.toInt64 else x1.toInt64 * x2.toInt64) : Int64) ≤ 1000000 then (if (-1000000) ≤ (if x0 = (3000 : Int32) then x1.toInt64 + x2.toInt64 else (if x0 = (3001 : Int32) then x1.toInt64 - x2.toInt64 else x1.toInt64 * x2.toInt64) : Int64) then (if x0 = (3000 : Int32) then x1.toInt64 + x2.toInt64 else (if x0 = (3001 : Int32) then x1.toInt64 - x2.toInt64 else x1.toInt64 * x2.toInt64) : Int64) else (-1000000)) else 1000000 : Int64)] h Q := by
        refine eb_l2i (pc := 146) rfl ?_
        exact eb_ireturn (pc := 147) rfl rfl rfl w
      refine eb_if_le (pc := 122) (tgt := 131) rfl (by decide) (fun c9 => ?_) (fun c9 => ?_)
      · replace c9 := eb_lc_le.mp c9
        refine eb_lload_n (pc := 131) (n := 3) (i := 3) rfl rfl rfl ?_
        refine eb_ldc2 (pc := 132) (a := 18446744073708551616) (v := (-1000000)) rfl (by decide) ?_
        refine eb_lcmp (pc := 135) rfl ?_
        refine eb_if_ge (pc := 136) (tgt := 145) rfl (by decide) (fun c10 => ?_) (fun c10 => ?_)
        · replace c10 := eb_lc_ge.mp c10
          refine eb_lload_n (pc := 145) (n := 3) (i := 3) rfl rfl rfl ?_
          simp only [if_pos c9, if_pos c10] at jj11 ⊢
          exact jj11
        · replace c10 := (fun hh => mt eb_lc_ge.mpr hh) c10
          refine eb_ldc2 (pc := 139) (a := 18446744073708551616) (v := (-1000000)) rfl (by decide) ?_
          refine eb_goto (pc := 142) (tgt := 146) rfl (by decide) ?_
          simp only [if_pos c9, if_neg c10] at jj11 ⊢
          exact jj11
      · replace c9 := (fun hh => mt eb_lc_le.mpr hh) c9
        refine eb_ldc2 (pc := 125) (a := 1000000) (v := 1000000) rfl (by decide) ?_
        refine eb_goto (pc := 128) (tgt := 146) rfl (by decide) ?_
        simp only [if_neg c9] at jj11 ⊢
        exact jj11
    refine eb_icmp_ne (pc := 85) (tgt := 96) rfl (by decide) (fun c7 => ?_) (fun c7 => ?_)
    · refine eb_iload_n (pc := 96) (n := 0) (i := 0) rfl rfl rfl ?_
      refine eb_sipush (pc := 97) (n := 3001) (v := 3001) rfl rfl ?_
      refine eb_icmp_ne (pc := 100) (tgt := 111) rfl (by decide) (fun c8 => ?_) (fun c8 => ?_)
      · refine eb_iload_n (pc := 111) (n := 1) (i := 1) rfl rfl rfl ?_
        refine eb_i2l (pc := 112) rfl ?_
        refine eb_iload_n (pc := 113) (n := 2) (i := 2) rfl rfl rfl ?_
        refine eb_i2l (pc := 114) rfl ?_
        refine eb_lmul (pc := 115) rfl ?_
        simp only [if_neg c7, if_neg c8] at jj12 ⊢
        exact jj12
      · refine eb_iload_n (pc := 103) (n := 1) (i := 1) rfl rfl rfl ?_
        refine eb_i2l (pc := 104) rfl ?_
        refine eb_iload_n (pc := 105) (n := 2) (i := 2) rfl rfl rfl ?_
        refine eb_i2l (pc := 106) rfl ?_
        refine eb_lsub (pc := 107) rfl ?_
        refine eb_goto (pc := 108) (tgt := 116) rfl (by decide) ?_
        simp only [if_neg c7, if_pos c8] at jj12 ⊢
        exact jj12
    · refine eb_iload_n (pc := 88) (n := 1) (i := 1) rfl rfl rfl ?_
      refine eb_i2l (pc := 89) rfl ?_
      refine eb_iload_n (pc := 90) (n := 2) (i := 2) rfl rfl rfl ?_
      refine eb_i2l (pc := 91) rfl ?_
      refine eb_ladd (pc := 92) rfl ?_
      refine eb_goto (pc := 93) (tgt := 116) rfl (by decide) ?_
      simp only [if_pos c7] at jj12 ⊢
      exact jj12
  by_cases s4 : x0 = 3007
  · refine eb_tableIn (pc := 1) (j := 4) (tgt := 73) (by rw [s4]; decide) (by decide) (by rfl) (by decide) rfl ?_
    replace w := w.2.2.2.1 s4
    refine eb_iload_n (pc := 73) (n := 1) (i := 1) rfl rfl rfl ?_
    refine eb_iload_n (pc := 74) (n := 2) (i := 2) rfl rfl rfl ?_
    refine eb_iand (pc := 75) rfl ?_
    exact eb_ireturn (pc := 76) rfl rfl rfl w
  by_cases s5 : x0 = 3008
  · refine eb_tableIn (pc := 1) (j := 5) (tgt := 77) (by rw [s5]; decide) (by decide) (by rfl) (by decide) rfl ?_
    replace w := w.2.2.2.2.1 s5
    refine eb_iload_n (pc := 77) (n := 1) (i := 1) rfl rfl rfl ?_
    refine eb_iload_n (pc := 78) (n := 2) (i := 2) rfl rfl rfl ?_
    refine eb_ior (pc := 79) rfl ?_
    exact eb_ireturn (pc := 80) rfl rfl rfl w
  refine eb_tableOut (pc := 1) (tgt := 81) (by have z0 := lv_neT (a := 3003) s0 (by decide); have z1 := lv_neT (a := 3004) s1 (by decide); have z2 := lv_neT (a := 3005) s2 (by decide); have z3 := lv_neT (a := 3006) s3 (by decide); have z4 := lv_neT (a := 3007) s4 (by decide); have z5 := lv_neT (a := 3008) s5 (by decide); omega) (by decide) rfl ?_
  replace w := w.2.2.2.2.2 s0 s1 s2 s4 s5
  refine eb_iload_n (pc := 81) (n := 0) (i := 0) rfl rfl rfl ?_
  refine eb_sipush (pc := 82) (n := 3000) (v := 3000) rfl rfl ?_
  have jj12 : eb_Sn d m_X11_between h0 116 [(0, .int x0), (1, .int x1), (2, .int x2)] [.long (if x0 = (3000 : Int32) then x1.toInt64 + x2.toInt64 else (if x0 = (3001 : Int32) then x1.toInt64 - x2.toInt64 else x1.toInt64 * x2.toInt64) : Int64)] h Q := by
    refine eb_lstore_n (pc := 116) (n := 3) (i := 3) (ls2 := [(3, .long (if x0 = (3000 : Int32) then x1.toInt64 + x2.toInt64 else (if x0 = (3001 : Int32) then x1.toInt64 - x2.toInt64 else x1.toInt64 * x2.toInt64) : Int64)), (0, .int x0), (1, .int x1), (2, .int x2)]) rfl (Nat.le_of_ble_eq_true rfl) rfl rfl ?_
    refine eb_lload_n (pc := 117) (n := 3) (i := 3) rfl rfl rfl ?_
    refine eb_ldc2 (pc := 118) (a := 1000000) (v := 1000000) rfl (by decide) ?_
    refine eb_lcmp (pc := 121) rfl ?_
    have jj11 : eb_Sn d m_X11_between h0 146 [(3, .long (if x0 = (3000 : Int32) then x1.toInt64 + x2.toInt64 else (if x0 = (3001 : Int32) then x1.toInt64 - x2.toInt64 else x1.toInt64 * x2.toInt64) : Int64)), (0, .int x0), (1, .int x1), (2, .int x2)] [.long (if (if x0 = (3000 : Int32) then x1.toInt64 + x2.toInt64 else (if x0 = (3001 : Int32) then x1.toInt64 - x2.toInt64 else x1.toInt64 * x2.toInt64) : Int64) ≤ 1000000 then (if (-1000000) ≤ (if x0 = (3000 : Int32) then x1.toInt64 + x2.toInt64 else (if x0 = (3001 : Int32) then x1.toInt64 - x2.toInt64 else x1.toInt64 * x2.toInt64) : Int64) then (if x0 = (3000 : Int32) then x1.toInt64 + x2.toInt64 else (if x0 = (3001 : Int32) then x1.toInt64 - x2.toInt64 else x1.toInt64 * x2.toInt64) : Int64) else (-1000000)) else 1000000 : Int64)] h Q := by
      refine eb_l2i (pc := 146) rfl ?_
      exact eb_ireturn (pc := 147) rfl rfl rfl w
    refine eb_if_le (pc := 122) (tgt := 131) rfl (by decide) (fun c9 => ?_) (fun c9 => ?_)
    · replace c9 := eb_lc_le.mp c9
      refine eb_lload_n (pc := 131) (n := 3) (i := 3) rfl rfl rfl ?_
      refine eb_ldc2 (pc := 132) (a := 18446744073708551616) (v := (-1000000)) rfl (by decide) ?_
      refine eb_lcmp (pc := 135) rfl ?_
      refine eb_if_ge (pc := 136) (tgt := 145) rfl (by decide) (fun c10 => ?_) (fun c10 => ?_)
      · replace c10 := eb_lc_ge.mp c10
        refine eb_lload_n (pc := 145) (n := 3) (i := 3) rfl rfl rfl ?_
        simp only [if_pos c9, if_pos c10] at jj11 ⊢
        exact jj11
      · replace c10 := (fun hh => mt eb_lc_ge.mpr hh) c10
        refine eb_ldc2 (pc := 139) (a := 18446744073708551616) (v := (-1000000)) rfl (by decide) ?_
        refine eb_goto (pc := 142) (tgt := 146) rfl (by decide) ?_
        simp only [if_pos c9, if_neg c10] at jj11 ⊢
        exact jj11
    · replace c9 := (fun hh => mt eb_lc_le.mpr hh) c9
      refine eb_ldc2 (pc := 125) (a := 1000000) (v := 1000000) rfl (by decide) ?_
      refine eb_goto (pc := 128) (tgt := 146) rfl (by decide) ?_
      simp only [if_neg c9] at jj11 ⊢
      exact jj11
  refine eb_icmp_ne (pc := 85) (tgt := 96) rfl (by decide) (fun c7 => ?_) (fun c7 => ?_)
  · refine eb_iload_n (pc := 96) (n := 0) (i := 0) rfl rfl rfl ?_
    refine eb_sipush (pc := 97) (n := 3001) (v := 3001) rfl rfl ?_
    refine eb_icmp_ne (pc := 100) (tgt := 111) rfl (by decide) (fun c8 => ?_) (fun c8 => ?_)
    · refine eb_iload_n (pc := 111) (n := 1) (i := 1) rfl rfl rfl ?_
      refine eb_i2l (pc := 112) rfl ?_
      refine eb_iload_n (pc := 113) (n := 2) (i := 2) rfl rfl rfl ?_
      refine eb_i2l (pc := 114) rfl ?_
      refine eb_lmul (pc := 115) rfl ?_
      simp only [if_neg c7, if_neg c8] at jj12 ⊢
      exact jj12
    · refine eb_iload_n (pc := 103) (n := 1) (i := 1) rfl rfl rfl ?_
      refine eb_i2l (pc := 104) rfl ?_
      refine eb_iload_n (pc := 105) (n := 2) (i := 2) rfl rfl rfl ?_
      refine eb_i2l (pc := 106) rfl ?_
      refine eb_lsub (pc := 107) rfl ?_
      refine eb_goto (pc := 108) (tgt := 116) rfl (by decide) ?_
      simp only [if_neg c7, if_pos c8] at jj12 ⊢
      exact jj12
  · refine eb_iload_n (pc := 88) (n := 1) (i := 1) rfl rfl rfl ?_
    refine eb_i2l (pc := 89) rfl ?_
    refine eb_iload_n (pc := 90) (n := 2) (i := 2) rfl rfl rfl ?_
    refine eb_i2l (pc := 91) rfl ?_
    refine eb_ladd (pc := 92) rfl ?_
    refine eb_goto (pc := 93) (tgt := 116) rfl (by decide) ?_
    simp only [if_pos c7] at jj12 ⊢
    exact jj12
theorem T_X11_between {d : Nat} {h : eb_H} {Q : Option Value → eb_H → Prop} (x0 : Int32) (x1 : Int32) (x2 : Int32)  (ko : eb_KO h) (w : ((x0 = 3003 → Q (some (.int (if x1 = x2 then 1 else 0 : Int32))) h) ∧ (x0 = 3004 → Q (some (.int (if x2 ≤ x1 then 0 else 1 : Int32))) h) ∧ (x0 = 3005 → Q (some (.int (if x1 ≤ x2 then 0 else 1 : Int32))) h) ∧ (x0 = 3007 → Q (some (.int (x1 &&& x2))) h) ∧ (x0 = 3008 → Q (some (.int (x1 ||| x2))) h) ∧ (¬ x0 = 3003 → ¬ x0 = 3004 → ¬ x0 = 3005 → ¬ x0 = 3007 → ¬ x0 = 3008 → Q (some (.int ((if (if x0 = (3000 : Int32) then x1.toInt64 + x2.toInt64 else (if x0 = (3001 : Int32) then x1.toInt64 - x2.toInt64 else x1.toInt64 * x2.toInt64) : Int64) ≤ 1000000 then (if (-1000000) ≤ (if x0 = (3000 : Int32) then x1.toInt64 + x2.toInt64 else (if x0 = (3001 : Int32) then x1.toInt64 - x2.toInt64 else x1.toInt64 * x2.toInt64) : Int64) then (if x0 = (3000 : Int32) then x1.toInt64 + x2.toInt64 else (if x0 = (3001 : Int32) then x1.toInt64 - x2.toInt64 else x1.toInt64 * x2.toInt64) : Int64) else (-1000000)) else 1000000 : Int64).toInt32))) h))) : eb_Ct d 197 [.int x0, .int x1, .int x2] h Q :=
  eb_bodyQ (by decide) ok_X11_between (Nat.le_of_ble_eq_true rfl) (b_X11_between_0 (h0 := h) x0 x1 x2  ko w)
theorem b_X11_reckons_0 {d : Nat} {h0 h : eb_H} {Q : Option Value → eb_H → Prop} (x1 : Int32) (x2 : Int32) (x3 : Int32)  (ko : eb_KO h) (w : (vp_in ((11 : Int32) + x3) 3492) ∧ (vp_in ((11 : Int32) + (x2 / 64)) 3492) ∧ eb_Ct d 194 [.int (x2 - x2 / 64 * 64)] (eb_sI (eb_sI h s_m_words (0 : Int32).toNatClampNeg (eb_I h s_m_all ((11 : Int32) + x3).toNatClampNeg)) s_m_words (1 : Int32).toNatClampNeg (eb_I (eb_sI h s_m_words (0 : Int32).toNatClampNeg (eb_I h s_m_all ((11 : Int32) + x3).toNatClampNeg)) s_m_all ((11 : Int32) + (x2 / 64)).toNatClampNeg)) (fun r h3 => ∃ y4, r = some (.int y4) ∧ eb_KO h3 ∧ (vp_in ((34 : Int32) + x3) 3492) ∧ eb_Sn (d + 1) m_X11_reckons h0 87 [(0, .ref s_MO), (1, .int x1), (4, .int 0), (5, .int 0)] [] (eb_sI (eb_sI (eb_sI (eb_sI h3 s_m_words (2 : Int32).toNatClampNeg y4) s_m_words (3 : Int32).toNatClampNeg (eb_I (eb_sI h3 s_m_words (2 : Int32).toNatClampNeg y4) s_m_all (51 : Int32).toNatClampNeg)) s_m_words (4 : Int32).toNatClampNeg x3) s_m_words (5 : Int32).toNatClampNeg (eb_I (eb_sI (eb_sI (eb_sI h3 s_m_words (2 : Int32).toNatClampNeg y4) s_m_words (3 : Int32).toNatClampNeg (eb_I (eb_sI h3 s_m_words (2 : Int32).toNatClampNeg y4) s_m_all (51 : Int32).toNatClampNeg)) s_m_words (4 : Int32).toNatClampNeg x3) s_m_all ((34 : Int32) + x3).toNatClampNeg)) Q)) : eb_Sn (d + 1) m_X11_reckons h0 0 [(0, .ref s_MO), (1, .int x1), (2, .int x2), (3, .int x3)] [] h Q := by
  refine eb_aload_n (pc := 0) (n := 0) (i := 0) rfl rfl rfl ?_
  refine eb_getR (pc := 1) rfl rfl (by decide) (by decide) rfl (ko_s_MO_17 ko) ?_
  refine eb_iconst (pc := 4) (n := 0) (v := 0) rfl rfl ?_
  refine eb_aload_n (pc := 5) (n := 0) (i := 0) rfl rfl rfl ?_
  refine eb_getR (pc := 6) rfl rfl (by decide) (by decide) rfl (ko_s_MO_1 ko) ?_
  refine eb_bipush (pc := 9) (n := 11) (v := 11) rfl rfl ?_
  refine eb_iload_n (pc := 11) (n := 3) (i := 3) rfl rfl rfl ?_
  refine eb_iadd (pc := 12) rfl ?_
  obtain ⟨c1, w⟩ := w
  refine eb_iaload (pc := 13) rfl rfl c1 ?_
  refine eb_iastore (pc := 14) rfl rfl (by unfold vp_in; decide) ?_
  refine eb_aload_n (pc := 15) (n := 0) (i := 0) rfl rfl rfl ?_
  refine eb_getR (pc := 16) rfl rfl (by decide) (by decide) rfl (ko_s_MO_17 ko) ?_
  refine eb_iconst (pc := 19) (n := 1) (v := 1) rfl rfl ?_
  refine eb_aload_n (pc := 20) (n := 0) (i := 0) rfl rfl rfl ?_
  refine eb_getR (pc := 21) rfl rfl (by decide) (by decide) rfl (ko_s_MO_1 ko) ?_
  refine eb_bipush (pc := 24) (n := 11) (v := 11) rfl rfl ?_
  refine eb_iload_n (pc := 26) (n := 2) (i := 2) rfl rfl rfl ?_
  refine eb_bipush (pc := 27) (n := 64) (v := 64) rfl rfl ?_
  refine eb_idiv (pc := 29) (by decide) rfl ?_
  refine eb_iadd (pc := 30) rfl ?_
  obtain ⟨c2, w⟩ := w
  refine eb_iaload (pc := 31) rfl rfl c2 ?_
  refine eb_iastore (pc := 32) rfl rfl (by unfold vp_in; decide) ?_
  refine eb_aload_n (pc := 33) (n := 0) (i := 0) rfl rfl rfl ?_
  refine eb_getR (pc := 34) rfl rfl (by decide) (by decide) rfl (ko_s_MO_17 ko) ?_
  refine eb_iconst (pc := 37) (n := 2) (v := 2) rfl rfl ?_
  refine eb_iload_n (pc := 38) (n := 2) (i := 2) rfl rfl rfl ?_
  refine eb_bipush (pc := 39) (n := 64) (v := 64) rfl rfl ?_
  refine eb_irem (pc := 41) (by decide) rfl ?_
  refine eb_ctS (pc := 42) (As := [.int (x2 - x2 / 64 * 64)]) (rest := [.int 2, .ref s_m_words]) rfl (by decide) (by decide) rfl rfl (Nat.le_of_ble_eq_true rfl) ?_
  refine eb_Ct.mono w ?_
  rintro r h3 ⟨y4, rfl, ko5, w⟩
  change eb_Sn _ _ _ 45 _ [.int y4, .int 2, .ref s_m_words] _ _
  refine eb_iastore (pc := 45) rfl rfl (by unfold vp_in; decide) ?_
  refine eb_aload_n (pc := 46) (n := 0) (i := 0) rfl rfl rfl ?_
  refine eb_getR (pc := 47) rfl rfl (by decide) (by decide) rfl (ko_s_MO_17 ko5) ?_
  refine eb_iconst (pc := 50) (n := 3) (v := 3) rfl rfl ?_
  refine eb_aload_n (pc := 51) (n := 0) (i := 0) rfl rfl rfl ?_
  refine eb_getR (pc := 52) rfl rfl (by decide) (by decide) rfl (ko_s_MO_1 ko5) ?_
  refine eb_bipush (pc := 55) (n := 51) (v := 51) rfl rfl ?_
  refine eb_iaload (pc := 57) rfl rfl (by unfold vp_in; decide) ?_
  refine eb_iastore (pc := 58) rfl rfl (by unfold vp_in; decide) ?_
  refine eb_aload_n (pc := 59) (n := 0) (i := 0) rfl rfl rfl ?_
  refine eb_getR (pc := 60) rfl rfl (by decide) (by decide) rfl (ko_s_MO_17 ko5) ?_
  refine eb_iconst (pc := 63) (n := 4) (v := 4) rfl rfl ?_
  refine eb_iload_n (pc := 64) (n := 3) (i := 3) rfl rfl rfl ?_
  refine eb_iastore (pc := 65) rfl rfl (by unfold vp_in; decide) ?_
  refine eb_aload_n (pc := 66) (n := 0) (i := 0) rfl rfl rfl ?_
  refine eb_getR (pc := 67) rfl rfl (by decide) (by decide) rfl (ko_s_MO_17 ko5) ?_
  refine eb_iconst (pc := 70) (n := 5) (v := 5) rfl rfl ?_
  refine eb_aload_n (pc := 71) (n := 0) (i := 0) rfl rfl rfl ?_
  refine eb_getR (pc := 72) rfl rfl (by decide) (by decide) rfl (ko_s_MO_1 ko5) ?_
  refine eb_bipush (pc := 75) (n := 34) (v := 34) rfl rfl ?_
  refine eb_iload_n (pc := 77) (n := 3) (i := 3) rfl rfl rfl ?_
  refine eb_iadd (pc := 78) rfl ?_
  obtain ⟨c6, w⟩ := w
  refine eb_iaload (pc := 79) rfl rfl c6 ?_
  refine eb_iastore (pc := 80) rfl rfl (by unfold vp_in; decide) ?_
  refine eb_iconst (pc := 81) (n := 0) (v := 0) rfl rfl ?_
  refine eb_istore (pc := 82) (i := 4) (ls2 := [(4, .int 0), (0, .ref s_MO), (1, .int x1), (2, .int x2), (3, .int x3)]) (Nat.le_of_ble_eq_true rfl) rfl rfl ?_
  refine eb_iconst (pc := 84) (n := 0) (v := 0) rfl rfl ?_
  refine eb_istore (pc := 85) (i := 5) (ls2 := [(5, .int 0), (4, .int 0), (0, .ref s_MO), (1, .int x1), (2, .int x2), (3, .int x3)]) (Nat.le_of_ble_eq_true rfl) rfl rfl ?_
  exact eb_pick [2, 3, 1, 0] rfl w
theorem b_X11_reckons_87 {d : Nat} {h0 h : eb_H} {Q : Option Value → eb_H → Prop} (x1 : Int32) (x4 : Int32) (x5 : Int32)  (ko : eb_KO h) (w : (vp_in ((9 : Int32) + x1) 3492) ∧ (((eb_I h s_m_all ((9 : Int32) + x1).toNatClampNeg) ≤ x5 → Q (some (.int (if (eb_I h s_m_reckoned (0 : Int32).toNatClampNeg) = (1 : Int32) then 1 else 0 : Int32))) h) ∧ (¬ ((eb_I h s_m_all ((9 : Int32) + x1).toNatClampNeg) ≤ x5) → (vp_in ((7 : Int32) + x1) 3492) ∧ (vp_in (((264 : Int32) + (eb_I h s_m_all ((7 : Int32) + x1).toNatClampNeg)) + x5) 3492) ∧ (((3000 : Int32) ≤ (eb_I h s_m_all (((264 : Int32) + (eb_I h s_m_all ((7 : Int32) + x1).toNatClampNeg)) + x5).toNatClampNeg) → ((¬ (eb_I h s_m_all (((264 : Int32) + (eb_I h s_m_all ((7 : Int32) + x1).toNatClampNeg)) + x5).toNatClampNeg) = (3006 : Int32) → (vp_in ((x4 + (-1)) - 1) 900) ∧ (vp_in (x4 + (-1)) 900) ∧ eb_Ct d 197 [.int (eb_I h s_m_all (((264 : Int32) + (eb_I h s_m_all ((7 : Int32) + x1).toNatClampNeg)) + x5).toNatClampNeg), .int (eb_I h s_m_reckoned ((x4 + (-1)) - 1).toNatClampNeg), .int (eb_I h s_m_reckoned (x4 + (-1)).toNatClampNeg)] h (fun r h11 => ∃ y12, r = some (.int y12) ∧ eb_KO h11 ∧ (vp_in ((x4 + (-1)) - 1) 900) ∧ eb_Sn (d + 1) m_X11_reckons h0 87 [(0, .ref s_MO), (1, .int x1), (4, .int (x4 + (-1))), (5, .int (x5 + 1))] [] (eb_sI h11 s_m_reckoned ((x4 + (-1)) - 1).toNatClampNeg y12) Q)) ∧ ((eb_I h s_m_all (((264 : Int32) + (eb_I h s_m_all ((7 : Int32) + x1).toNatClampNeg)) + x5).toNatClampNeg) = (3006 : Int32) → (vp_in (x4 - 1) 900) ∧ (vp_in (x4 - 1) 900) ∧ eb_Sn (d + 1) m_X11_reckons h0 87 [(0, .ref s_MO), (1, .int x1), (4, .int x4), (5, .int (x5 + 1))] [] (eb_sI h s_m_reckoned (x4 - 1).toNatClampNeg ((1 : Int32) - (eb_I h s_m_reckoned (x4 - 1).toNatClampNeg))) Q))) ∧ (¬ ((3000 : Int32) ≤ (eb_I h s_m_all (((264 : Int32) + (eb_I h s_m_all ((7 : Int32) + x1).toNatClampNeg)) + x5).toNatClampNeg)) → (((1000 : Int32) ≤ (eb_I h s_m_all (((264 : Int32) + (eb_I h s_m_all ((7 : Int32) + x1).toNatClampNeg)) + x5).toNatClampNeg) → (vp_in ((eb_I h s_m_all (((264 : Int32) + (eb_I h s_m_all ((7 : Int32) + x1).toNatClampNeg)) + x5).toNatClampNeg) - 1000) 6) ∧ (vp_in x4 900) ∧ eb_Sn (d + 1) m_X11_reckons h0 87 [(0, .ref s_MO), (1, .int x1), (4, .int (x4 + 1)), (5, .int (x5 + 1))] [] (eb_sI h s_m_reckoned x4.toNatClampNeg (eb_I h s_m_words ((eb_I h s_m_all (((264 : Int32) + (eb_I h s_m_all ((7 : Int32) + x1).toNatClampNeg)) + x5).toNatClampNeg) - 1000).toNatClampNeg)) Q) ∧ (¬ ((1000 : Int32) ≤ (eb_I h s_m_all (((264 : Int32) + (eb_I h s_m_all ((7 : Int32) + x1).toNatClampNeg)) + x5).toNatClampNeg)) → (vp_in x4 900) ∧ eb_Sn (d + 1) m_X11_reckons h0 87 [(0, .ref s_MO), (1, .int x1), (4, .int (x4 + 1)), (5, .int (x5 + 1))] [] (eb_sI h s_m_reckoned x4.toNatClampNeg (eb_I h s_m_all (((264 : Int32) + (eb_I h s_m_all ((7 : Int32) + x1).toNatClampNeg)) + x5).toNatClampNeg)) Q))))))) : eb_Sn (d + 1) m_X11_reckons h0 87 [(0, .ref s_MO), (1, .int x1), (4, .int x4), (5, .int x5)] [] h Q := by
  refine eb_iload (pc := 87) (i := 5) rfl rfl ?_
  refine eb_aload_n (pc := 89) (n := 0) (i := 0) rfl rfl rfl ?_
  refine eb_getR (pc := 90) rfl rfl (by decide) (by decide) rfl (ko_s_MO_1 ko) ?_
  refine eb_bipush (pc := 93) (n := 9) (v := 9) rfl rfl ?_
  refine eb_iload_n (pc := 95) (n := 1) (i := 1) rfl rfl rfl ?_
  refine eb_iadd (pc := 96) rfl ?_
  obtain ⟨c1, w⟩ := w
  refine eb_iaload (pc := 97) rfl rfl c1 ?_
  refine eb_icmp_ge (pc := 98) (tgt := 239) rfl (by decide) (fun c2 => ?_) (fun c2 => ?_)
  · replace w := w.1 c2
    refine eb_aload_n (pc := 239) (n := 0) (i := 0) rfl rfl rfl ?_
    refine eb_getR (pc := 240) rfl rfl (by decide) (by decide) rfl (ko_s_MO_16 ko) ?_
    refine eb_iconst (pc := 243) (n := 0) (v := 0) rfl rfl ?_
    refine eb_iaload (pc := 244) rfl rfl (by unfold vp_in; decide) ?_
    refine eb_iconst (pc := 245) (n := 1) (v := 1) rfl rfl ?_
    have jj4 : eb_Sn (d + 1) m_X11_reckons h0 254 [(0, .ref s_MO), (1, .int x1), (4, .int x4), (5, .int x5)] [.int (if (eb_I h s_m_reckoned (0 : Int32).toNatClampNeg) = (1 : Int32) then 1 else 0 : Int32)] h Q := by
      exact eb_ireturn (pc := 254) rfl rfl (by (repeat' split) <;> rfl) w
    refine eb_icmp_ne (pc := 246) (tgt := 253) rfl (by decide) (fun c3 => ?_) (fun c3 => ?_)
    · refine eb_iconst (pc := 253) (n := 0) (v := 0) rfl rfl ?_
      simp only [if_neg c3] at jj4 ⊢
      exact jj4
    · refine eb_iconst (pc := 249) (n := 1) (v := 1) rfl rfl ?_
      refine eb_goto (pc := 250) (tgt := 254) rfl (by decide) ?_
      simp only [if_pos c3] at jj4 ⊢
      exact jj4
  · replace w := w.2 c2
    refine eb_aload_n (pc := 101) (n := 0) (i := 0) rfl rfl rfl ?_
    refine eb_getR (pc := 102) rfl rfl (by decide) (by decide) rfl (ko_s_MO_1 ko) ?_
    refine eb_sipush (pc := 105) (n := 264) (v := 264) rfl rfl ?_
    refine eb_aload_n (pc := 108) (n := 0) (i := 0) rfl rfl rfl ?_
    refine eb_getR (pc := 109) rfl rfl (by decide) (by decide) rfl (ko_s_MO_1 ko) ?_
    refine eb_bipush (pc := 112) (n := 7) (v := 7) rfl rfl ?_
    refine eb_iload_n (pc := 114) (n := 1) (i := 1) rfl rfl rfl ?_
    refine eb_iadd (pc := 115) rfl ?_
    obtain ⟨c5, w⟩ := w
    refine eb_iaload (pc := 116) rfl rfl c5 ?_
    refine eb_iadd (pc := 117) rfl ?_
    refine eb_iload (pc := 118) (i := 5) rfl rfl ?_
    refine eb_iadd (pc := 120) rfl ?_
    obtain ⟨c6, w⟩ := w
    refine eb_iaload (pc := 121) rfl rfl c6 ?_
    refine eb_istore (pc := 122) (i := 6) (ls2 := [(6, .int (eb_I h s_m_all (((264 : Int32) + (eb_I h s_m_all ((7 : Int32) + x1).toNatClampNeg)) + x5).toNatClampNeg)), (0, .ref s_MO), (1, .int x1), (4, .int x4), (5, .int x5)]) (Nat.le_of_ble_eq_true rfl) rfl rfl ?_
    refine eb_iload (pc := 124) (i := 6) rfl rfl ?_
    refine eb_sipush (pc := 126) (n := 3000) (v := 3000) rfl rfl ?_
    refine eb_icmp_ge (pc := 129) (tgt := 169) rfl (by decide) (fun c7 => ?_) (fun c7 => ?_)
    · replace w := w.1 c7
      refine eb_iload (pc := 169) (i := 6) rfl rfl ?_
      refine eb_sipush (pc := 171) (n := 3006) (v := 3006) rfl rfl ?_
      refine eb_icmp_ne (pc := 174) (tgt := 200) rfl (by decide) (fun c8 => ?_) (fun c8 => ?_)
      · replace w := w.1 c8
        refine eb_iinc (pc := 200) (i := 4) (n := -1) (v := x4 + (-1)) (ls2 := [(4, .int (x4 + (-1))), (6, .int (eb_I h s_m_all (((264 : Int32) + (eb_I h s_m_all ((7 : Int32) + x1).toNatClampNeg)) + x5).toNatClampNeg)), (0, .ref s_MO), (1, .int x1), (5, .int x5)]) (Nat.le_of_ble_eq_true rfl) rfl rfl rfl rfl ?_
        refine eb_aload_n (pc := 203) (n := 0) (i := 0) rfl rfl rfl ?_
        refine eb_getR (pc := 204) rfl rfl (by decide) (by decide) rfl (ko_s_MO_16 ko) ?_
        refine eb_iload (pc := 207) (i := 4) rfl rfl ?_
        refine eb_iconst (pc := 209) (n := 1) (v := 1) rfl rfl ?_
        refine eb_isub (pc := 210) rfl ?_
        refine eb_iload (pc := 211) (i := 6) rfl rfl ?_
        refine eb_aload_n (pc := 213) (n := 0) (i := 0) rfl rfl rfl ?_
        refine eb_getR (pc := 214) rfl rfl (by decide) (by decide) rfl (ko_s_MO_16 ko) ?_
        refine eb_iload (pc := 217) (i := 4) rfl rfl ?_
        refine eb_iconst (pc := 219) (n := 1) (v := 1) rfl rfl ?_
        refine eb_isub (pc := 220) rfl ?_
        obtain ⟨c9, w⟩ := w
        refine eb_iaload (pc := 221) rfl rfl c9 ?_
        refine eb_aload_n (pc := 222) (n := 0) (i := 0) rfl rfl rfl ?_
        refine eb_getR (pc := 223) rfl rfl (by decide) (by decide) rfl (ko_s_MO_16 ko) ?_
        refine eb_iload (pc := 226) (i := 4) rfl rfl ?_
        obtain ⟨c10, w⟩ := w
        refine eb_iaload (pc := 228) rfl rfl c10 ?_
        refine eb_ctS (pc := 229) (As := [.int (eb_I h s_m_all (((264 : Int32) + (eb_I h s_m_all ((7 : Int32) + x1).toNatClampNeg)) + x5).toNatClampNeg), .int (eb_I h s_m_reckoned ((x4 + (-1)) - 1).toNatClampNeg), .int (eb_I h s_m_reckoned (x4 + (-1)).toNatClampNeg)]) (rest := [.int ((x4 + (-1)) - 1), .ref s_m_reckoned]) rfl (by decide) (by decide) rfl rfl (Nat.le_of_ble_eq_true rfl) ?_
        refine eb_Ct.mono w ?_
        rintro r h11 ⟨y12, rfl, ko13, w⟩
        change eb_Sn _ _ _ 232 _ [.int y12, .int ((x4 + (-1)) - 1), .ref s_m_reckoned] _ _
        obtain ⟨c14, w⟩ := w
        refine eb_iastore (pc := 232) rfl rfl c14 ?_
        refine eb_iinc (pc := 233) (i := 5) (n := 1) (v := x5 + 1) (ls2 := [(5, .int (x5 + 1)), (4, .int (x4 + (-1))), (6, .int (eb_I h s_m_all (((264 : Int32) + (eb_I h s_m_all ((7 : Int32) + x1).toNatClampNeg)) + x5).toNatClampNeg)), (0, .ref s_MO), (1, .int x1)]) (Nat.le_of_ble_eq_true rfl) rfl rfl rfl rfl ?_
        refine eb_goto (pc := 236) (tgt := 87) rfl (by decide) ?_
        exact eb_pick [3, 4, 1, 0] rfl w
      · replace w := w.2 c8
        refine eb_aload_n (pc := 177) (n := 0) (i := 0) rfl rfl rfl ?_
        refine eb_getR (pc := 178) rfl rfl (by decide) (by decide) rfl (ko_s_MO_16 ko) ?_
        refine eb_iload (pc := 181) (i := 4) rfl rfl ?_
        refine eb_iconst (pc := 183) (n := 1) (v := 1) rfl rfl ?_
        refine eb_isub (pc := 184) rfl ?_
        refine eb_iconst (pc := 185) (n := 1) (v := 1) rfl rfl ?_
        refine eb_aload_n (pc := 186) (n := 0) (i := 0) rfl rfl rfl ?_
        refine eb_getR (pc := 187) rfl rfl (by decide) (by decide) rfl (ko_s_MO_16 ko) ?_
        refine eb_iload (pc := 190) (i := 4) rfl rfl ?_
        refine eb_iconst (pc := 192) (n := 1) (v := 1) rfl rfl ?_
        refine eb_isub (pc := 193) rfl ?_
        obtain ⟨c15, w⟩ := w
        refine eb_iaload (pc := 194) rfl rfl c15 ?_
        refine eb_isub (pc := 195) rfl ?_
        obtain ⟨c16, w⟩ := w
        refine eb_iastore (pc := 196) rfl rfl c16 ?_
        refine eb_goto (pc := 197) (tgt := 233) rfl (by decide) ?_
        refine eb_iinc (pc := 233) (i := 5) (n := 1) (v := x5 + 1) (ls2 := [(5, .int (x5 + 1)), (6, .int (eb_I h s_m_all (((264 : Int32) + (eb_I h s_m_all ((7 : Int32) + x1).toNatClampNeg)) + x5).toNatClampNeg)), (0, .ref s_MO), (1, .int x1), (4, .int x4)]) (Nat.le_of_ble_eq_true rfl) rfl rfl rfl rfl ?_
        refine eb_goto (pc := 236) (tgt := 87) rfl (by decide) ?_
        exact eb_pick [2, 3, 4, 0] rfl w
    · replace w := w.2 c7
      refine eb_aload_n (pc := 132) (n := 0) (i := 0) rfl rfl rfl ?_
      refine eb_getR (pc := 133) rfl rfl (by decide) (by decide) rfl (ko_s_MO_16 ko) ?_
      refine eb_iload (pc := 136) (i := 4) rfl rfl ?_
      refine eb_iload (pc := 138) (i := 6) rfl rfl ?_
      refine eb_sipush (pc := 140) (n := 1000) (v := 1000) rfl rfl ?_
      refine eb_icmp_ge (pc := 143) (tgt := 151) rfl (by decide) (fun c17 => ?_) (fun c17 => ?_)
      · replace w := w.1 c17
        refine eb_aload_n (pc := 151) (n := 0) (i := 0) rfl rfl rfl ?_
        refine eb_getR (pc := 152) rfl rfl (by decide) (by decide) rfl (ko_s_MO_17 ko) ?_
        refine eb_iload (pc := 155) (i := 6) rfl rfl ?_
        refine eb_sipush (pc := 157) (n := 1000) (v := 1000) rfl rfl ?_
        refine eb_isub (pc := 160) rfl ?_
        obtain ⟨c18, w⟩ := w
        refine eb_iaload (pc := 161) rfl rfl c18 ?_
        obtain ⟨c19, w⟩ := w
        refine eb_iastore (pc := 162) rfl rfl c19 ?_
        refine eb_iinc (pc := 163) (i := 4) (n := 1) (v := x4 + 1) (ls2 := [(4, .int (x4 + 1)), (6, .int (eb_I h s_m_all (((264 : Int32) + (eb_I h s_m_all ((7 : Int32) + x1).toNatClampNeg)) + x5).toNatClampNeg)), (0, .ref s_MO), (1, .int x1), (5, .int x5)]) (Nat.le_of_ble_eq_true rfl) rfl rfl rfl rfl ?_
        refine eb_goto (pc := 166) (tgt := 233) rfl (by decide) ?_
        refine eb_iinc (pc := 233) (i := 5) (n := 1) (v := x5 + 1) (ls2 := [(5, .int (x5 + 1)), (4, .int (x4 + 1)), (6, .int (eb_I h s_m_all (((264 : Int32) + (eb_I h s_m_all ((7 : Int32) + x1).toNatClampNeg)) + x5).toNatClampNeg)), (0, .ref s_MO), (1, .int x1)]) (Nat.le_of_ble_eq_true rfl) rfl rfl rfl rfl ?_
        refine eb_goto (pc := 236) (tgt := 87) rfl (by decide) ?_
        exact eb_pick [3, 4, 1, 0] rfl w
      · replace w := w.2 c17
        refine eb_iload (pc := 146) (i := 6) rfl rfl ?_
        refine eb_goto (pc := 148) (tgt := 162) rfl (by decide) ?_
        obtain ⟨c20, w⟩ := w
        refine eb_iastore (pc := 162) rfl rfl c20 ?_
        refine eb_iinc (pc := 163) (i := 4) (n := 1) (v := x4 + 1) (ls2 := [(4, .int (x4 + 1)), (6, .int (eb_I h s_m_all (((264 : Int32) + (eb_I h s_m_all ((7 : Int32) + x1).toNatClampNeg)) + x5).toNatClampNeg)), (0, .ref s_MO), (1, .int x1), (5, .int x5)]) (Nat.le_of_ble_eq_true rfl) rfl rfl rfl rfl ?_
        refine eb_goto (pc := 166) (tgt := 233) rfl (by decide) ?_
        refine eb_iinc (pc := 233) (i := 5) (n := 1) (v := x5 + 1) (ls2 := [(5, .int (x5 + 1)), (4, .int (x4 + 1)), (6, .int (eb_I h s_m_all (((264 : Int32) + (eb_I h s_m_all ((7 : Int32) + x1).toNatClampNeg)) + x5).toNatClampNeg)), (0, .ref s_MO), (1, .int x1)]) (Nat.le_of_ble_eq_true rfl) rfl rfl rfl rfl ?_
        refine eb_goto (pc := 236) (tgt := 87) rfl (by decide) ?_
        exact eb_pick [3, 4, 1, 0] rfl w
theorem T_X11_reckons {d : Nat} {h : eb_H} {Q : Option Value → eb_H → Prop} (x1 : Int32) (x2 : Int32) (x3 : Int32)  (ko : eb_KO h) (w : (vp_in ((11 : Int32) + x3) 3492) ∧ (vp_in ((11 : Int32) + (x2 / 64)) 3492) ∧ eb_Ct d 194 [.int (x2 - x2 / 64 * 64)] (eb_sI (eb_sI h s_m_words (0 : Int32).toNatClampNeg (eb_I h s_m_all ((11 : Int32) + x3).toNatClampNeg)) s_m_words (1 : Int32).toNatClampNeg (eb_I (eb_sI h s_m_words (0 : Int32).toNatClampNeg (eb_I h s_m_all ((11 : Int32) + x3).toNatClampNeg)) s_m_all ((11 : Int32) + (x2 / 64)).toNatClampNeg)) (fun r h3 => ∃ y4, r = some (.int y4) ∧ eb_KO h3 ∧ (vp_in ((34 : Int32) + x3) 3492) ∧ eb_Sn (d + 1) m_X11_reckons h 87 [(0, .ref s_MO), (1, .int x1), (4, .int 0), (5, .int 0)] [] (eb_sI (eb_sI (eb_sI (eb_sI h3 s_m_words (2 : Int32).toNatClampNeg y4) s_m_words (3 : Int32).toNatClampNeg (eb_I (eb_sI h3 s_m_words (2 : Int32).toNatClampNeg y4) s_m_all (51 : Int32).toNatClampNeg)) s_m_words (4 : Int32).toNatClampNeg x3) s_m_words (5 : Int32).toNatClampNeg (eb_I (eb_sI (eb_sI (eb_sI h3 s_m_words (2 : Int32).toNatClampNeg y4) s_m_words (3 : Int32).toNatClampNeg (eb_I (eb_sI h3 s_m_words (2 : Int32).toNatClampNeg y4) s_m_all (51 : Int32).toNatClampNeg)) s_m_words (4 : Int32).toNatClampNeg x3) s_m_all ((34 : Int32) + x3).toNatClampNeg)) Q)) : eb_Ct (d + 1) 198 [.ref s_MO, .int x1, .int x2, .int x3] h Q :=
  eb_bodyQ (by decide) ok_X11_reckons (Nat.le_of_ble_eq_true rfl) (b_X11_reckons_0 (h0 := h) x1 x2 x3  ko w)
theorem b_X11_whyBy_0 {d : Nat} {h0 h : eb_H} {Q : Option Value → eb_H → Prop} (x1 : Int32) (x2 : Int32) (x3 : Int32)  (ko : eb_KO h) (w : eb_Ct d 156 [.long x2.toInt64, .long 0, .long 3] h (fun r h1 => ∃ y2, r = some (.int y2) ∧ eb_KO h1 ∧ ((¬ y2 = 0 → eb_Ct d 196 [.ref s_MO, .int (x1 / 64), .int x2] h1 (fun r h5 => ∃ y6, r = some (.int y6) ∧ eb_KO h5 ∧ ((¬ y6 = ((-1) : Int32) → eb_Ct d 169 [.long x3.toInt64, .int y6] h5 (fun r h9 => ∃ y10, r = some (.int y10) ∧ eb_KO h9 ∧ ((y10 = 0 → (((eb_I h9 s_m_all (5 : Int32).toNatClampNeg) = 0 → Q (some (.int 0)) h9) ∧ (¬ ((eb_I h9 s_m_all (5 : Int32).toNatClampNeg) = 0) → eb_Ct d 198 [.ref s_MO, .int 0, .int x1, .int y6] h9 (fun r h14 => ∃ y15, r = some (.int y15) ∧ eb_KO h14 ∧ Q (some (.int (if y15 = 0 then 4 else 0 : Int32))) h14)))) ∧ (¬ (y10 = 0) → Q (some (.int 3)) h9)))) ∧ (y6 = ((-1) : Int32) → Q (some (.int 2)) h5)))) ∧ (y2 = 0 → Q (some (.int 1)) h1)))) : eb_Sn (d + 1) m_X11_whyBy h0 0 [(0, .ref s_MO), (1, .int x1), (2, .int x2), (3, .int x3)] [] h Q := by
  refine eb_iload_n (pc := 0) (n := 2) (i := 2) rfl rfl rfl ?_
  refine eb_i2l (pc := 1) rfl ?_
  refine eb_lconst (pc := 2) (n := 0) (v := 0) rfl rfl ?_
  refine eb_ldc2 (pc := 3) (a := 3) (v := 3) rfl (by decide) ?_
  refine eb_ctS (pc := 6) (As := [.long x2.toInt64, .long 0, .long 3]) (rest := []) rfl (by decide) (by decide) rfl rfl (Nat.le_of_ble_eq_true rfl) ?_
  refine eb_Ct.mono w ?_
  rintro r h1 ⟨y2, rfl, ko3, w⟩
  change eb_Sn _ _ _ 9 _ [.int y2] _ _
  refine eb_if_ne (pc := 9) (tgt := 14) rfl (by decide) (fun c4 => ?_) (fun c4 => ?_)
  · replace w := w.1 c4
    refine eb_aload_n (pc := 14) (n := 0) (i := 0) rfl rfl rfl ?_
    refine eb_iload_n (pc := 15) (n := 1) (i := 1) rfl rfl rfl ?_
    refine eb_bipush (pc := 16) (n := 64) (v := 64) rfl rfl ?_
    refine eb_idiv (pc := 18) (by decide) rfl ?_
    refine eb_iload_n (pc := 19) (n := 2) (i := 2) rfl rfl rfl ?_
    refine eb_ctV (pc := 20) (As := [.int (x1 / 64), .int x2]) (rest := []) rfl (by decide) rfl rfl (by decide) rfl (Nat.le_of_ble_eq_true rfl) ?_
    refine eb_Ct.mono w ?_
    rintro r h5 ⟨y6, rfl, ko7, w⟩
    change eb_Sn _ _ _ 23 _ [.int y6] _ _
    refine eb_istore (pc := 23) (i := 4) (ls2 := [(4, .int y6), (0, .ref s_MO), (1, .int x1), (2, .int x2), (3, .int x3)]) (Nat.le_of_ble_eq_true rfl) rfl rfl ?_
    refine eb_iload (pc := 25) (i := 4) rfl rfl ?_
    refine eb_iconst (pc := 27) (n := -1) (v := (-1)) rfl rfl ?_
    refine eb_icmp_ne (pc := 28) (tgt := 33) rfl (by decide) (fun c8 => ?_) (fun c8 => ?_)
    · replace w := w.1 c8
      refine eb_iload_n (pc := 33) (n := 3) (i := 3) rfl rfl rfl ?_
      refine eb_i2l (pc := 34) rfl ?_
      refine eb_iload (pc := 35) (i := 4) rfl rfl ?_
      refine eb_ctS (pc := 37) (As := [.long x3.toInt64, .int y6]) (rest := []) rfl (by decide) (by decide) rfl rfl (Nat.le_of_ble_eq_true rfl) ?_
      refine eb_Ct.mono w ?_
      rintro r h9 ⟨y10, rfl, ko11, w⟩
      change eb_Sn _ _ _ 40 _ [.int y10] _ _
      refine eb_if_eq (pc := 40) (tgt := 45) rfl (by decide) (fun c12 => ?_) (fun c12 => ?_)
      · replace w := w.1 c12
        refine eb_aload_n (pc := 45) (n := 0) (i := 0) rfl rfl rfl ?_
        refine eb_getR (pc := 46) rfl rfl (by decide) (by decide) rfl (ko_s_MO_1 ko11) ?_
        refine eb_iconst (pc := 49) (n := 5) (v := 5) rfl rfl ?_
        refine eb_iaload (pc := 50) rfl rfl (by unfold vp_in; decide) ?_
        refine eb_if_eq (pc := 51) (tgt := 65) rfl (by decide) (fun c13 => ?_) (fun c13 => ?_)
        · replace w := w.1 c13
          refine eb_iconst (pc := 65) (n := 0) (v := 0) rfl rfl ?_
          refine eb_goto (pc := 66) (tgt := 70) rfl (by decide) ?_
          exact eb_ireturn (pc := 70) rfl rfl rfl w
        · replace w := w.2 c13
          refine eb_aload_n (pc := 54) (n := 0) (i := 0) rfl rfl rfl ?_
          refine eb_iconst (pc := 55) (n := 0) (v := 0) rfl rfl ?_
          refine eb_iload_n (pc := 56) (n := 1) (i := 1) rfl rfl rfl ?_
          refine eb_iload (pc := 57) (i := 4) rfl rfl ?_
          refine eb_ctV (pc := 59) (As := [.int 0, .int x1, .int y6]) (rest := []) rfl (by decide) rfl rfl (by decide) rfl (Nat.le_of_ble_eq_true rfl) ?_
          refine eb_Ct.mono w ?_
          rintro r h14 ⟨y15, rfl, ko16, w⟩
          change eb_Sn _ _ _ 62 _ [.int y15] _ _
          have jj18 : eb_Sn (d + 1) m_X11_whyBy h0 70 [(4, .int y6), (0, .ref s_MO), (1, .int x1), (2, .int x2), (3, .int x3)] [.int (if y15 = 0 then 4 else 0 : Int32)] h14 Q := by
            exact eb_ireturn (pc := 70) rfl rfl rfl w
          refine eb_if_eq (pc := 62) (tgt := 69) rfl (by decide) (fun c17 => ?_) (fun c17 => ?_)
          · refine eb_iconst (pc := 69) (n := 4) (v := 4) rfl rfl ?_
            simp only [if_pos c17] at jj18 ⊢
            exact jj18
          · refine eb_iconst (pc := 65) (n := 0) (v := 0) rfl rfl ?_
            refine eb_goto (pc := 66) (tgt := 70) rfl (by decide) ?_
            simp only [if_neg c17] at jj18 ⊢
            exact jj18
      · replace w := w.2 c12
        refine eb_iconst (pc := 43) (n := 3) (v := 3) rfl rfl ?_
        exact eb_ireturn (pc := 44) rfl rfl rfl w
    · replace w := w.2 c8
      refine eb_iconst (pc := 31) (n := 2) (v := 2) rfl rfl ?_
      exact eb_ireturn (pc := 32) rfl rfl rfl w
  · replace w := w.2 c4
    refine eb_iconst (pc := 12) (n := 1) (v := 1) rfl rfl ?_
    exact eb_ireturn (pc := 13) rfl rfl rfl w
theorem T_X11_whyBy {d : Nat} {h : eb_H} {Q : Option Value → eb_H → Prop} (x1 : Int32) (x2 : Int32) (x3 : Int32)  (ko : eb_KO h) (w : eb_Ct d 156 [.long x2.toInt64, .long 0, .long 3] h (fun r h1 => ∃ y2, r = some (.int y2) ∧ eb_KO h1 ∧ ((¬ y2 = 0 → eb_Ct d 196 [.ref s_MO, .int (x1 / 64), .int x2] h1 (fun r h5 => ∃ y6, r = some (.int y6) ∧ eb_KO h5 ∧ ((¬ y6 = ((-1) : Int32) → eb_Ct d 169 [.long x3.toInt64, .int y6] h5 (fun r h9 => ∃ y10, r = some (.int y10) ∧ eb_KO h9 ∧ ((y10 = 0 → (((eb_I h9 s_m_all (5 : Int32).toNatClampNeg) = 0 → Q (some (.int 0)) h9) ∧ (¬ ((eb_I h9 s_m_all (5 : Int32).toNatClampNeg) = 0) → eb_Ct d 198 [.ref s_MO, .int 0, .int x1, .int y6] h9 (fun r h14 => ∃ y15, r = some (.int y15) ∧ eb_KO h14 ∧ Q (some (.int (if y15 = 0 then 4 else 0 : Int32))) h14)))) ∧ (¬ (y10 = 0) → Q (some (.int 3)) h9)))) ∧ (y6 = ((-1) : Int32) → Q (some (.int 2)) h5)))) ∧ (y2 = 0 → Q (some (.int 1)) h1)))) : eb_Ct (d + 1) 199 [.ref s_MO, .int x1, .int x2, .int x3] h Q :=
  eb_bodyQ (by decide) ok_X11_whyBy (Nat.le_of_ble_eq_true rfl) (b_X11_whyBy_0 (h0 := h) x1 x2 x3  ko w)
theorem b_X11_stepTo_0 {d : Nat} {h0 h : eb_H} {Q : Option Value → eb_H → Prop} (x1 : Int32) (x2 : Int32)  (ko : eb_KO h) (w : eb_Ct d 196 [.ref s_MO, .int (x1 / 64), .int x2] h (fun r h1 => ∃ y2, r = some (.int y2) ∧ eb_KO h1 ∧ (vp_in ((34 : Int32) + y2) 3492) ∧ (((eb_I h1 s_m_all ((34 : Int32) + y2).toNatClampNeg) ≤ 0 → Q (some (.int (((64 : Int32) * y2) + (x1 - x1 / 64 * 64)))) h1) ∧ (¬ ((eb_I h1 s_m_all ((34 : Int32) + y2).toNatClampNeg) ≤ 0) → eb_Ct d 169 [.long ((x1 - x1 / 64 * 64).toInt64), .int ((eb_I h1 s_m_all ((34 : Int32) + y2).toNatClampNeg) - 1)] h1 (fun r h6 => ∃ y7, r = some (.int y7) ∧ eb_KO h6 ∧ ((¬ y7 = 0 → Q (some (.int (((64 : Int32) * y2) + (x1 - x1 / 64 * 64)))) h6) ∧ (y7 = 0 → eb_Ct d 194 [.int (x1 - x1 / 64 * 64)] h6 (fun r h10 => ∃ y11, r = some (.int y11) ∧ eb_KO h10 ∧ (((eb_I h10 s_m_all (3 : Int32).toNatClampNeg) ≤ y11 → Q (some (.int (((64 : Int32) * y2) + (x1 - x1 / 64 * 64)))) h10) ∧ (¬ ((eb_I h10 s_m_all (3 : Int32).toNatClampNeg) ≤ y11) → (((eb_I h10 s_m_all (6 : Int32).toNatClampNeg) = 0 → Q (some (.int (((64 : Int32) * y2) + ((x1 - x1 / 64 * 64) ||| ((1 : Int32) <<< (((eb_I h1 s_m_all ((34 : Int32) + y2).toNatClampNeg) - 1) &&& 31)))))) h10) ∧ (¬ ((eb_I h10 s_m_all (6 : Int32).toNatClampNeg) = 0) → eb_Ct d 198 [.ref s_MO, .int 1, .int x1, .int y2] h10 (fun r h15 => ∃ y16, r = some (.int y16) ∧ eb_KO h15 ∧ Q (some (.int (((64 : Int32) * y2) + (if (if y16 = 0 then 0 else 1 : Int32) = 0 then x1 - x1 / 64 * 64 else (x1 - x1 / 64 * 64) ||| ((1 : Int32) <<< (((eb_I h1 s_m_all ((34 : Int32) + y2).toNatClampNeg) - 1) &&& 31)) : Int32)))) h15))))))))))))) : eb_Sn (d + 1) m_X11_stepTo h0 0 [(0, .ref s_MO), (1, .int x1), (2, .int x2)] [] h Q := by
  refine eb_aload_n (pc := 0) (n := 0) (i := 0) rfl rfl rfl ?_
  refine eb_iload_n (pc := 1) (n := 1) (i := 1) rfl rfl rfl ?_
  refine eb_bipush (pc := 2) (n := 64) (v := 64) rfl rfl ?_
  refine eb_idiv (pc := 4) (by decide) rfl ?_
  refine eb_iload_n (pc := 5) (n := 2) (i := 2) rfl rfl rfl ?_
  refine eb_ctV (pc := 6) (As := [.int (x1 / 64), .int x2]) (rest := []) rfl (by decide) rfl rfl (by decide) rfl (Nat.le_of_ble_eq_true rfl) ?_
  refine eb_Ct.mono w ?_
  rintro r h1 ⟨y2, rfl, ko3, w⟩
  change eb_Sn _ _ _ 9 _ [.int y2] _ _
  refine eb_istore_n (pc := 9) (n := 3) (i := 3) (ls2 := [(3, .int y2), (0, .ref s_MO), (1, .int x1), (2, .int x2)]) rfl (Nat.le_of_ble_eq_true rfl) rfl rfl ?_
  refine eb_iload_n (pc := 10) (n := 1) (i := 1) rfl rfl rfl ?_
  refine eb_bipush (pc := 11) (n := 64) (v := 64) rfl rfl ?_
  refine eb_irem (pc := 13) (by decide) rfl ?_
  refine eb_istore (pc := 14) (i := 4) (ls2 := [(4, .int (x1 - x1 / 64 * 64)), (3, .int y2), (0, .ref s_MO), (1, .int x1), (2, .int x2)]) (Nat.le_of_ble_eq_true rfl) rfl rfl ?_
  refine eb_aload_n (pc := 16) (n := 0) (i := 0) rfl rfl rfl ?_
  refine eb_getR (pc := 17) rfl rfl (by decide) (by decide) rfl (ko_s_MO_1 ko3) ?_
  refine eb_bipush (pc := 20) (n := 34) (v := 34) rfl rfl ?_
  refine eb_iload_n (pc := 22) (n := 3) (i := 3) rfl rfl rfl ?_
  refine eb_iadd (pc := 23) rfl ?_
  obtain ⟨c4, w⟩ := w
  refine eb_iaload (pc := 24) rfl rfl c4 ?_
  refine eb_istore (pc := 25) (i := 5) (ls2 := [(5, .int (eb_I h1 s_m_all ((34 : Int32) + y2).toNatClampNeg)), (4, .int (x1 - x1 / 64 * 64)), (3, .int y2), (0, .ref s_MO), (1, .int x1), (2, .int x2)]) (Nat.le_of_ble_eq_true rfl) rfl rfl ?_
  refine eb_iload (pc := 27) (i := 5) rfl rfl ?_
  refine eb_if_le (pc := 29) (tgt := 83) rfl (by decide) (fun c5 => ?_) (fun c5 => ?_)
  · replace w := w.1 c5
    refine eb_iconst (pc := 83) (n := 0) (v := 0) rfl rfl ?_
    refine eb_istore (pc := 84) (i := 6) (ls2 := [(6, .int 0), (5, .int (eb_I h1 s_m_all ((34 : Int32) + y2).toNatClampNeg)), (4, .int (x1 - x1 / 64 * 64)), (3, .int y2), (0, .ref s_MO), (1, .int x1), (2, .int x2)]) (Nat.le_of_ble_eq_true rfl) rfl rfl ?_
    refine eb_bipush (pc := 86) (n := 64) (v := 64) rfl rfl ?_
    refine eb_iload_n (pc := 88) (n := 3) (i := 3) rfl rfl rfl ?_
    refine eb_imul (pc := 89) rfl ?_
    refine eb_iload (pc := 90) (i := 6) rfl rfl ?_
    refine eb_if_eq (pc := 92) (tgt := 107) rfl (by decide) (fun c => ?_) (fun c => absurd c (by decide))
    refine eb_iload (pc := 107) (i := 4) rfl rfl ?_
    refine eb_iadd (pc := 109) rfl ?_
    exact eb_ireturn (pc := 110) rfl rfl rfl w
  · replace w := w.2 c5
    refine eb_iload (pc := 32) (i := 4) rfl rfl ?_
    refine eb_i2l (pc := 34) rfl ?_
    refine eb_iload (pc := 35) (i := 5) rfl rfl ?_
    refine eb_iconst (pc := 37) (n := 1) (v := 1) rfl rfl ?_
    refine eb_isub (pc := 38) rfl ?_
    refine eb_ctS (pc := 39) (As := [.long ((x1 - x1 / 64 * 64).toInt64), .int ((eb_I h1 s_m_all ((34 : Int32) + y2).toNatClampNeg) - 1)]) (rest := []) rfl (by decide) (by decide) rfl rfl (Nat.le_of_ble_eq_true rfl) ?_
    refine eb_Ct.mono w ?_
    rintro r h6 ⟨y7, rfl, ko8, w⟩
    change eb_Sn _ _ _ 42 _ [.int y7] _ _
    refine eb_if_ne (pc := 42) (tgt := 83) rfl (by decide) (fun c9 => ?_) (fun c9 => ?_)
    · replace w := w.1 c9
      refine eb_iconst (pc := 83) (n := 0) (v := 0) rfl rfl ?_
      refine eb_istore (pc := 84) (i := 6) (ls2 := [(6, .int 0), (5, .int (eb_I h1 s_m_all ((34 : Int32) + y2).toNatClampNeg)), (4, .int (x1 - x1 / 64 * 64)), (3, .int y2), (0, .ref s_MO), (1, .int x1), (2, .int x2)]) (Nat.le_of_ble_eq_true rfl) rfl rfl ?_
      refine eb_bipush (pc := 86) (n := 64) (v := 64) rfl rfl ?_
      refine eb_iload_n (pc := 88) (n := 3) (i := 3) rfl rfl rfl ?_
      refine eb_imul (pc := 89) rfl ?_
      refine eb_iload (pc := 90) (i := 6) rfl rfl ?_
      refine eb_if_eq (pc := 92) (tgt := 107) rfl (by decide) (fun c => ?_) (fun c => absurd c (by decide))
      refine eb_iload (pc := 107) (i := 4) rfl rfl ?_
      refine eb_iadd (pc := 109) rfl ?_
      exact eb_ireturn (pc := 110) rfl rfl rfl w
    · replace w := w.2 c9
      refine eb_iload (pc := 45) (i := 4) rfl rfl ?_
      refine eb_ctS (pc := 47) (As := [.int (x1 - x1 / 64 * 64)]) (rest := []) rfl (by decide) (by decide) rfl rfl (Nat.le_of_ble_eq_true rfl) ?_
      refine eb_Ct.mono w ?_
      rintro r h10 ⟨y11, rfl, ko12, w⟩
      change eb_Sn _ _ _ 50 _ [.int y11] _ _
      refine eb_aload_n (pc := 50) (n := 0) (i := 0) rfl rfl rfl ?_
      refine eb_getR (pc := 51) rfl rfl (by decide) (by decide) rfl (ko_s_MO_1 ko12) ?_
      refine eb_iconst (pc := 54) (n := 3) (v := 3) rfl rfl ?_
      refine eb_iaload (pc := 55) rfl rfl (by unfold vp_in; decide) ?_
      refine eb_icmp_ge (pc := 56) (tgt := 83) rfl (by decide) (fun c13 => ?_) (fun c13 => ?_)
      · replace w := w.1 c13
        refine eb_iconst (pc := 83) (n := 0) (v := 0) rfl rfl ?_
        refine eb_istore (pc := 84) (i := 6) (ls2 := [(6, .int 0), (5, .int (eb_I h1 s_m_all ((34 : Int32) + y2).toNatClampNeg)), (4, .int (x1 - x1 / 64 * 64)), (3, .int y2), (0, .ref s_MO), (1, .int x1), (2, .int x2)]) (Nat.le_of_ble_eq_true rfl) rfl rfl ?_
        refine eb_bipush (pc := 86) (n := 64) (v := 64) rfl rfl ?_
        refine eb_iload_n (pc := 88) (n := 3) (i := 3) rfl rfl rfl ?_
        refine eb_imul (pc := 89) rfl ?_
        refine eb_iload (pc := 90) (i := 6) rfl rfl ?_
        refine eb_if_eq (pc := 92) (tgt := 107) rfl (by decide) (fun c => ?_) (fun c => absurd c (by decide))
        refine eb_iload (pc := 107) (i := 4) rfl rfl ?_
        refine eb_iadd (pc := 109) rfl ?_
        exact eb_ireturn (pc := 110) rfl rfl rfl w
      · replace w := w.2 c13
        refine eb_aload_n (pc := 59) (n := 0) (i := 0) rfl rfl rfl ?_
        refine eb_getR (pc := 60) rfl rfl (by decide) (by decide) rfl (ko_s_MO_1 ko12) ?_
        refine eb_bipush (pc := 63) (n := 6) (v := 6) rfl rfl ?_
        refine eb_iaload (pc := 65) rfl rfl (by unfold vp_in; decide) ?_
        refine eb_if_eq (pc := 66) (tgt := 79) rfl (by decide) (fun c14 => ?_) (fun c14 => ?_)
        · replace w := w.1 c14
          refine eb_iconst (pc := 79) (n := 1) (v := 1) rfl rfl ?_
          refine eb_goto (pc := 80) (tgt := 84) rfl (by decide) ?_
          refine eb_istore (pc := 84) (i := 6) (ls2 := [(6, .int 1), (5, .int (eb_I h1 s_m_all ((34 : Int32) + y2).toNatClampNeg)), (4, .int (x1 - x1 / 64 * 64)), (3, .int y2), (0, .ref s_MO), (1, .int x1), (2, .int x2)]) (Nat.le_of_ble_eq_true rfl) rfl rfl ?_
          refine eb_bipush (pc := 86) (n := 64) (v := 64) rfl rfl ?_
          refine eb_iload_n (pc := 88) (n := 3) (i := 3) rfl rfl rfl ?_
          refine eb_imul (pc := 89) rfl ?_
          refine eb_iload (pc := 90) (i := 6) rfl rfl ?_
          refine eb_if_eq (pc := 92) (tgt := 107) rfl (by decide) (fun c => absurd c (by decide)) (fun c => ?_)
          refine eb_iload (pc := 95) (i := 4) rfl rfl ?_
          refine eb_iconst (pc := 97) (n := 1) (v := 1) rfl rfl ?_
          refine eb_iload (pc := 98) (i := 5) rfl rfl ?_
          refine eb_iconst (pc := 100) (n := 1) (v := 1) rfl rfl ?_
          refine eb_isub (pc := 101) rfl ?_
          refine eb_ishl (pc := 102) rfl ?_
          refine eb_ior (pc := 103) rfl ?_
          refine eb_goto (pc := 104) (tgt := 109) rfl (by decide) ?_
          refine eb_iadd (pc := 109) rfl ?_
          exact eb_ireturn (pc := 110) rfl rfl rfl w
        · replace w := w.2 c14
          refine eb_aload_n (pc := 69) (n := 0) (i := 0) rfl rfl rfl ?_
          refine eb_iconst (pc := 70) (n := 1) (v := 1) rfl rfl ?_
          refine eb_iload_n (pc := 71) (n := 1) (i := 1) rfl rfl rfl ?_
          refine eb_iload_n (pc := 72) (n := 3) (i := 3) rfl rfl rfl ?_
          refine eb_ctV (pc := 73) (As := [.int 1, .int x1, .int y2]) (rest := []) rfl (by decide) rfl rfl (by decide) rfl (Nat.le_of_ble_eq_true rfl) ?_
          refine eb_Ct.mono w ?_
          rintro r h15 ⟨y16, rfl, ko17, w⟩
          change eb_Sn _ _ _ 76 _ [.int y16] _ _
          have jj21 : eb_Sn (d + 1) m_X11_stepTo h0 84 [(5, .int (eb_I h1 s_m_all ((34 : Int32) + y2).toNatClampNeg)), (4, .int (x1 - x1 / 64 * 64)), (3, .int y2), (0, .ref s_MO), (1, .int x1), (2, .int x2)] [.int (if y16 = 0 then 0 else 1 : Int32)] h15 Q := by
            refine eb_istore (pc := 84) (i := 6) (ls2 := [(6, .int (if y16 = 0 then 0 else 1 : Int32)), (5, .int (eb_I h1 s_m_all ((34 : Int32) + y2).toNatClampNeg)), (4, .int (x1 - x1 / 64 * 64)), (3, .int y2), (0, .ref s_MO), (1, .int x1), (2, .int x2)]) (Nat.le_of_ble_eq_true rfl) rfl rfl ?_
            refine eb_bipush (pc := 86) (n := 64) (v := 64) rfl rfl ?_
            refine eb_iload_n (pc := 88) (n := 3) (i := 3) rfl rfl rfl ?_
            refine eb_imul (pc := 89) rfl ?_
            refine eb_iload (pc := 90) (i := 6) rfl rfl ?_
            have jj20 : eb_Sn (d + 1) m_X11_stepTo h0 109 [(6, .int (if y16 = 0 then 0 else 1 : Int32)), (5, .int (eb_I h1 s_m_all ((34 : Int32) + y2).toNatClampNeg)), (4, .int (x1 - x1 / 64 * 64)), (3, .int y2), (0, .ref s_MO), (1, .int x1), (2, .int x2)] [.int (if (if y16 = 0 then 0 else 1 : Int32) = 0 then x1 - x1 / 64 * 64 else (x1 - x1 / 64 * 64) ||| ((1 : Int32) <<< (((eb_I h1 s_m_all ((34 : Int32) + y2).toNatClampNeg) - 1) &&& 31)) : Int32), .int ((64 : Int32) * y2)] h15 Q := by
              refine eb_iadd (pc := 109) rfl ?_
              exact eb_ireturn (pc := 110) rfl rfl rfl w
            refine eb_if_eq (pc := 92) (tgt := 107) rfl (by decide) (fun c19 => ?_) (fun c19 => ?_)
            · refine eb_iload (pc := 107) (i := 4) rfl rfl ?_
              simp only [if_pos c19] at jj20 ⊢
              exact jj20
            · refine eb_iload (pc := 95) (i := 4) rfl rfl ?_
              refine eb_iconst (pc := 97) (n := 1) (v := 1) rfl rfl ?_
              refine eb_iload (pc := 98) (i := 5) rfl rfl ?_
              refine eb_iconst (pc := 100) (n := 1) (v := 1) rfl rfl ?_
              refine eb_isub (pc := 101) rfl ?_
              refine eb_ishl (pc := 102) rfl ?_
              refine eb_ior (pc := 103) rfl ?_
              refine eb_goto (pc := 104) (tgt := 109) rfl (by decide) ?_
              simp only [if_neg c19] at jj20 ⊢
              exact jj20
          refine eb_if_eq (pc := 76) (tgt := 83) rfl (by decide) (fun c18 => ?_) (fun c18 => ?_)
          · refine eb_iconst (pc := 83) (n := 0) (v := 0) rfl rfl ?_
            simp only [if_pos c18] at jj21 ⊢
            exact jj21
          · refine eb_iconst (pc := 79) (n := 1) (v := 1) rfl rfl ?_
            refine eb_goto (pc := 80) (tgt := 84) rfl (by decide) ?_
            simp only [if_neg c18] at jj21 ⊢
            exact jj21
theorem T_X11_stepTo {d : Nat} {h : eb_H} {Q : Option Value → eb_H → Prop} (x1 : Int32) (x2 : Int32)  (ko : eb_KO h) (w : eb_Ct d 196 [.ref s_MO, .int (x1 / 64), .int x2] h (fun r h1 => ∃ y2, r = some (.int y2) ∧ eb_KO h1 ∧ (vp_in ((34 : Int32) + y2) 3492) ∧ (((eb_I h1 s_m_all ((34 : Int32) + y2).toNatClampNeg) ≤ 0 → Q (some (.int (((64 : Int32) * y2) + (x1 - x1 / 64 * 64)))) h1) ∧ (¬ ((eb_I h1 s_m_all ((34 : Int32) + y2).toNatClampNeg) ≤ 0) → eb_Ct d 169 [.long ((x1 - x1 / 64 * 64).toInt64), .int ((eb_I h1 s_m_all ((34 : Int32) + y2).toNatClampNeg) - 1)] h1 (fun r h6 => ∃ y7, r = some (.int y7) ∧ eb_KO h6 ∧ ((¬ y7 = 0 → Q (some (.int (((64 : Int32) * y2) + (x1 - x1 / 64 * 64)))) h6) ∧ (y7 = 0 → eb_Ct d 194 [.int (x1 - x1 / 64 * 64)] h6 (fun r h10 => ∃ y11, r = some (.int y11) ∧ eb_KO h10 ∧ (((eb_I h10 s_m_all (3 : Int32).toNatClampNeg) ≤ y11 → Q (some (.int (((64 : Int32) * y2) + (x1 - x1 / 64 * 64)))) h10) ∧ (¬ ((eb_I h10 s_m_all (3 : Int32).toNatClampNeg) ≤ y11) → (((eb_I h10 s_m_all (6 : Int32).toNatClampNeg) = 0 → Q (some (.int (((64 : Int32) * y2) + ((x1 - x1 / 64 * 64) ||| ((1 : Int32) <<< (((eb_I h1 s_m_all ((34 : Int32) + y2).toNatClampNeg) - 1) &&& 31)))))) h10) ∧ (¬ ((eb_I h10 s_m_all (6 : Int32).toNatClampNeg) = 0) → eb_Ct d 198 [.ref s_MO, .int 1, .int x1, .int y2] h10 (fun r h15 => ∃ y16, r = some (.int y16) ∧ eb_KO h15 ∧ Q (some (.int (((64 : Int32) * y2) + (if (if y16 = 0 then 0 else 1 : Int32) = 0 then x1 - x1 / 64 * 64 else (x1 - x1 / 64 * 64) ||| ((1 : Int32) <<< (((eb_I h1 s_m_all ((34 : Int32) + y2).toNatClampNeg) - 1) &&& 31)) : Int32)))) h15))))))))))))) : eb_Ct (d + 1) 200 [.ref s_MO, .int x1, .int x2] h Q :=
  eb_bodyQ (by decide) ok_X11_stepTo (Nat.le_of_ble_eq_true rfl) (b_X11_stepTo_0 (h0 := h) x1 x2  ko w)
theorem b_X11_cell_0 {d : Nat} {h0 h : eb_H} {Q : Option Value → eb_H → Prop} (x1 : Int32) (x2 : Int32)  (ko : eb_KO h) (w : eb_Ct d 191 [.ref s_MO, .long x1.toInt64] (eb_sI h s_MO 0 0) (fun r h1 => ∃ y2, r = some (.int y2) ∧ eb_KO h1 ∧ ((¬ y2 = 0 → ((¬ x2 = (3 : Int32) → ((¬ x2 = 0 → ((¬ x2 = (1 : Int32) → Q (some (.int (if x2 = (2 : Int32) then ((eb_I h1 s_m_all (50 : Int32).toNatClampNeg) >>> (x1 &&& 31)) &&& 1 else (-2) : Int32))) h1) ∧ (x2 = (1 : Int32) → (vp_in ((34 : Int32) + x1) 3492) ∧ Q (some (.int (eb_I h1 s_m_all ((34 : Int32) + x1).toNatClampNeg))) h1))) ∧ (x2 = 0 → (vp_in ((11 : Int32) + x1) 3492) ∧ Q (some (.int (eb_I h1 s_m_all ((11 : Int32) + x1).toNatClampNeg))) h1))) ∧ (x2 = (3 : Int32) → eb_Sn (d + 1) m_X11_cell h0 24 [(0, .ref s_MO), (1, .int x1), (3, .int 0)] [] h1 Q))) ∧ (y2 = 0 → Q (some (.int (-2))) h1)))) : eb_Sn (d + 1) m_X11_cell h0 0 [(0, .ref s_MO), (1, .int x1), (2, .int x2)] [] h Q := by
  refine eb_aload_n (pc := 0) (n := 0) (i := 0) rfl rfl rfl ?_
  refine eb_iconst (pc := 1) (n := 0) (v := 0) rfl rfl ?_
  refine eb_putI (pc := 2) rfl rfl (by decide) (by decide) rfl rfl ⟨rfl, rfl⟩ ?_
  refine eb_aload_n (pc := 5) (n := 0) (i := 0) rfl rfl rfl ?_
  refine eb_iload_n (pc := 6) (n := 1) (i := 1) rfl rfl rfl ?_
  refine eb_i2l (pc := 7) rfl ?_
  refine eb_ctV (pc := 8) (As := [.long x1.toInt64]) (rest := []) rfl (by decide) rfl rfl (by decide) rfl (Nat.le_of_ble_eq_true rfl) ?_
  refine eb_Ct.mono w ?_
  rintro r h1 ⟨y2, rfl, ko3, w⟩
  change eb_Sn _ _ _ 11 _ [.int y2] _ _
  refine eb_if_ne (pc := 11) (tgt := 17) rfl (by decide) (fun c4 => ?_) (fun c4 => ?_)
  · replace w := w.1 c4
    refine eb_iload_n (pc := 17) (n := 2) (i := 2) rfl rfl rfl ?_
    refine eb_iconst (pc := 18) (n := 3) (v := 3) rfl rfl ?_
    refine eb_icmp_ne (pc := 19) (tgt := 57) rfl (by decide) (fun c5 => ?_) (fun c5 => ?_)
    · replace w := w.1 c5
      refine eb_iload_n (pc := 57) (n := 2) (i := 2) rfl rfl rfl ?_
      refine eb_if_ne (pc := 58) (tgt := 73) rfl (by decide) (fun c6 => ?_) (fun c6 => ?_)
      · replace w := w.1 c6
        refine eb_iload_n (pc := 73) (n := 2) (i := 2) rfl rfl rfl ?_
        refine eb_iconst (pc := 74) (n := 1) (v := 1) rfl rfl ?_
        refine eb_icmp_ne (pc := 75) (tgt := 90) rfl (by decide) (fun c7 => ?_) (fun c7 => ?_)
        · replace w := w.1 c7
          refine eb_iload_n (pc := 90) (n := 2) (i := 2) rfl rfl rfl ?_
          refine eb_iconst (pc := 91) (n := 2) (v := 2) rfl rfl ?_
          have jj9 : eb_Sn (d + 1) m_X11_cell h0 111 [(0, .ref s_MO), (1, .int x1), (2, .int x2)] [.int (if x2 = (2 : Int32) then ((eb_I h1 s_m_all (50 : Int32).toNatClampNeg) >>> (x1 &&& 31)) &&& 1 else (-2) : Int32)] h1 Q := by
            exact eb_ireturn (pc := 111) rfl rfl rfl w
          refine eb_icmp_ne (pc := 92) (tgt := 109) rfl (by decide) (fun c8 => ?_) (fun c8 => ?_)
          · refine eb_bipush (pc := 109) (n := -2) (v := (-2)) rfl rfl ?_
            simp only [if_neg c8] at jj9 ⊢
            exact jj9
          · refine eb_aload_n (pc := 95) (n := 0) (i := 0) rfl rfl rfl ?_
            refine eb_getR (pc := 96) rfl rfl (by decide) (by decide) rfl (ko_s_MO_1 ko3) ?_
            refine eb_bipush (pc := 99) (n := 50) (v := 50) rfl rfl ?_
            refine eb_iaload (pc := 101) rfl rfl (by unfold vp_in; decide) ?_
            refine eb_iload_n (pc := 102) (n := 1) (i := 1) rfl rfl rfl ?_
            refine eb_ishr (pc := 103) rfl ?_
            refine eb_iconst (pc := 104) (n := 1) (v := 1) rfl rfl ?_
            refine eb_iand (pc := 105) rfl ?_
            refine eb_goto (pc := 106) (tgt := 111) rfl (by decide) ?_
            simp only [if_pos c8] at jj9 ⊢
            exact jj9
        · replace w := w.2 c7
          refine eb_aload_n (pc := 78) (n := 0) (i := 0) rfl rfl rfl ?_
          refine eb_getR (pc := 79) rfl rfl (by decide) (by decide) rfl (ko_s_MO_1 ko3) ?_
          refine eb_bipush (pc := 82) (n := 34) (v := 34) rfl rfl ?_
          refine eb_iload_n (pc := 84) (n := 1) (i := 1) rfl rfl rfl ?_
          refine eb_iadd (pc := 85) rfl ?_
          obtain ⟨c10, w⟩ := w
          refine eb_iaload (pc := 86) rfl rfl c10 ?_
          refine eb_goto (pc := 87) (tgt := 111) rfl (by decide) ?_
          exact eb_ireturn (pc := 111) rfl rfl rfl w
      · replace w := w.2 c6
        refine eb_aload_n (pc := 61) (n := 0) (i := 0) rfl rfl rfl ?_
        refine eb_getR (pc := 62) rfl rfl (by decide) (by decide) rfl (ko_s_MO_1 ko3) ?_
        refine eb_bipush (pc := 65) (n := 11) (v := 11) rfl rfl ?_
        refine eb_iload_n (pc := 67) (n := 1) (i := 1) rfl rfl rfl ?_
        refine eb_iadd (pc := 68) rfl ?_
        obtain ⟨c11, w⟩ := w
        refine eb_iaload (pc := 69) rfl rfl c11 ?_
        refine eb_goto (pc := 70) (tgt := 111) rfl (by decide) ?_
        exact eb_ireturn (pc := 111) rfl rfl rfl w
    · replace w := w.2 c5
      refine eb_iconst (pc := 22) (n := 0) (v := 0) rfl rfl ?_
      refine eb_istore_n (pc := 23) (n := 3) (i := 3) (ls2 := [(3, .int 0), (0, .ref s_MO), (1, .int x1), (2, .int x2)]) rfl (Nat.le_of_ble_eq_true rfl) rfl rfl ?_
      exact eb_pick [1, 2, 0] rfl w
  · replace w := w.2 c4
    refine eb_bipush (pc := 14) (n := -2) (v := (-2)) rfl rfl ?_
    exact eb_ireturn (pc := 16) rfl rfl rfl w
theorem b_X11_cell_24 {d : Nat} {h0 h : eb_H} {Q : Option Value → eb_H → Prop} (x1 : Int32) (x3 : Int32)  (ko : eb_KO h) (w : (((eb_I h s_m_all (4 : Int32).toNatClampNeg) ≤ x3 → Q (some (.int (-1))) h) ∧ (¬ ((eb_I h s_m_all (4 : Int32).toNatClampNeg) ≤ x3) → (vp_in ((27 : Int32) + x3) 3492) ∧ ((¬ (eb_I h s_m_all ((27 : Int32) + x3).toNatClampNeg) = x1 → eb_Sn (d + 1) m_X11_cell h0 24 [(0, .ref s_MO), (1, .int x1), (3, .int (x3 + 1))] [] h Q) ∧ ((eb_I h s_m_all ((27 : Int32) + x3).toNatClampNeg) = x1 → Q (some (.int x3)) h))))) : eb_Sn (d + 1) m_X11_cell h0 24 [(0, .ref s_MO), (1, .int x1), (3, .int x3)] [] h Q := by
  refine eb_iload_n (pc := 24) (n := 3) (i := 3) rfl rfl rfl ?_
  refine eb_aload_n (pc := 25) (n := 0) (i := 0) rfl rfl rfl ?_
  refine eb_getR (pc := 26) rfl rfl (by decide) (by decide) rfl (ko_s_MO_1 ko) ?_
  refine eb_iconst (pc := 29) (n := 4) (v := 4) rfl rfl ?_
  refine eb_iaload (pc := 30) rfl rfl (by unfold vp_in; decide) ?_
  refine eb_icmp_ge (pc := 31) (tgt := 55) rfl (by decide) (fun c1 => ?_) (fun c1 => ?_)
  · replace w := w.1 c1
    refine eb_iconst (pc := 55) (n := -1) (v := (-1)) rfl rfl ?_
    exact eb_ireturn (pc := 56) rfl rfl rfl w
  · replace w := w.2 c1
    refine eb_aload_n (pc := 34) (n := 0) (i := 0) rfl rfl rfl ?_
    refine eb_getR (pc := 35) rfl rfl (by decide) (by decide) rfl (ko_s_MO_1 ko) ?_
    refine eb_bipush (pc := 38) (n := 27) (v := 27) rfl rfl ?_
    refine eb_iload_n (pc := 40) (n := 3) (i := 3) rfl rfl rfl ?_
    refine eb_iadd (pc := 41) rfl ?_
    obtain ⟨c2, w⟩ := w
    refine eb_iaload (pc := 42) rfl rfl c2 ?_
    refine eb_iload_n (pc := 43) (n := 1) (i := 1) rfl rfl rfl ?_
    refine eb_icmp_ne (pc := 44) (tgt := 49) rfl (by decide) (fun c3 => ?_) (fun c3 => ?_)
    · replace w := w.1 c3
      refine eb_iinc (pc := 49) (i := 3) (n := 1) (v := x3 + 1) (ls2 := [(3, .int (x3 + 1)), (0, .ref s_MO), (1, .int x1)]) (Nat.le_of_ble_eq_true rfl) rfl rfl rfl rfl ?_
      refine eb_goto (pc := 52) (tgt := 24) rfl (by decide) ?_
      exact eb_pick [1, 2, 0] rfl w
    · replace w := w.2 c3
      refine eb_iload_n (pc := 47) (n := 3) (i := 3) rfl rfl rfl ?_
      exact eb_ireturn (pc := 48) rfl rfl rfl w
theorem T_X11_cell {d : Nat} {h : eb_H} {Q : Option Value → eb_H → Prop} (x1 : Int32) (x2 : Int32)  (ko : eb_KO h) (w : eb_Ct d 191 [.ref s_MO, .long x1.toInt64] (eb_sI h s_MO 0 0) (fun r h1 => ∃ y2, r = some (.int y2) ∧ eb_KO h1 ∧ ((¬ y2 = 0 → ((¬ x2 = (3 : Int32) → ((¬ x2 = 0 → ((¬ x2 = (1 : Int32) → Q (some (.int (if x2 = (2 : Int32) then ((eb_I h1 s_m_all (50 : Int32).toNatClampNeg) >>> (x1 &&& 31)) &&& 1 else (-2) : Int32))) h1) ∧ (x2 = (1 : Int32) → (vp_in ((34 : Int32) + x1) 3492) ∧ Q (some (.int (eb_I h1 s_m_all ((34 : Int32) + x1).toNatClampNeg))) h1))) ∧ (x2 = 0 → (vp_in ((11 : Int32) + x1) 3492) ∧ Q (some (.int (eb_I h1 s_m_all ((11 : Int32) + x1).toNatClampNeg))) h1))) ∧ (x2 = (3 : Int32) → eb_Sn (d + 1) m_X11_cell h 24 [(0, .ref s_MO), (1, .int x1), (3, .int 0)] [] h1 Q))) ∧ (y2 = 0 → Q (some (.int (-2))) h1)))) : eb_Ct (d + 1) 201 [.ref s_MO, .int x1, .int x2] h Q :=
  eb_bodyQ (by decide) ok_X11_cell (Nat.le_of_ble_eq_true rfl) (b_X11_cell_0 (h0 := h) x1 x2  ko w)
theorem b_X11_house_0 {d : Nat} {h0 h : eb_H} {Q : Option Value → eb_H → Prop} (x1 : Int32)  (ko : eb_KO h) (w : eb_Ct d 192 [.ref s_MO, .int x1] (eb_sI h s_MO 0 0) (fun r h1 => ∃ y2, r = some (.int y2) ∧ eb_KO h1 ∧ ((y2 = 0 → Q (some (.int (-2))) h1) ∧ (¬ (y2 = 0) → (vp_in ((27 : Int32) + x1) 3492) ∧ Q (some (.int (eb_I h1 s_m_all ((27 : Int32) + x1).toNatClampNeg))) h1)))) : eb_Sn (d + 1) m_X11_house h0 0 [(0, .ref s_MO), (1, .int x1)] [] h Q := by
  refine eb_aload_n (pc := 0) (n := 0) (i := 0) rfl rfl rfl ?_
  refine eb_iconst (pc := 1) (n := 0) (v := 0) rfl rfl ?_
  refine eb_putI (pc := 2) rfl rfl (by decide) (by decide) rfl rfl ⟨rfl, rfl⟩ ?_
  refine eb_aload_n (pc := 5) (n := 0) (i := 0) rfl rfl rfl ?_
  refine eb_iload_n (pc := 6) (n := 1) (i := 1) rfl rfl rfl ?_
  refine eb_ctV (pc := 7) (As := [.int x1]) (rest := []) rfl (by decide) rfl rfl (by decide) rfl (Nat.le_of_ble_eq_true rfl) ?_
  refine eb_Ct.mono w ?_
  rintro r h1 ⟨y2, rfl, ko3, w⟩
  change eb_Sn _ _ _ 10 _ [.int y2] _ _
  refine eb_if_eq (pc := 10) (tgt := 25) rfl (by decide) (fun c4 => ?_) (fun c4 => ?_)
  · replace w := w.1 c4
    refine eb_bipush (pc := 25) (n := -2) (v := (-2)) rfl rfl ?_
    exact eb_ireturn (pc := 27) rfl rfl rfl w
  · replace w := w.2 c4
    refine eb_aload_n (pc := 13) (n := 0) (i := 0) rfl rfl rfl ?_
    refine eb_getR (pc := 14) rfl rfl (by decide) (by decide) rfl (ko_s_MO_1 ko3) ?_
    refine eb_bipush (pc := 17) (n := 27) (v := 27) rfl rfl ?_
    refine eb_iload_n (pc := 19) (n := 1) (i := 1) rfl rfl rfl ?_
    refine eb_iadd (pc := 20) rfl ?_
    obtain ⟨c5, w⟩ := w
    refine eb_iaload (pc := 21) rfl rfl c5 ?_
    refine eb_goto (pc := 22) (tgt := 27) rfl (by decide) ?_
    exact eb_ireturn (pc := 27) rfl rfl rfl w
theorem T_X11_house {d : Nat} {h : eb_H} {Q : Option Value → eb_H → Prop} (x1 : Int32)  (ko : eb_KO h) (w : eb_Ct d 192 [.ref s_MO, .int x1] (eb_sI h s_MO 0 0) (fun r h1 => ∃ y2, r = some (.int y2) ∧ eb_KO h1 ∧ ((y2 = 0 → Q (some (.int (-2))) h1) ∧ (¬ (y2 = 0) → (vp_in ((27 : Int32) + x1) 3492) ∧ Q (some (.int (eb_I h1 s_m_all ((27 : Int32) + x1).toNatClampNeg))) h1)))) : eb_Ct (d + 1) 202 [.ref s_MO, .int x1] h Q :=
  eb_bodyQ (by decide) ok_X11_house (Nat.le_of_ble_eq_true rfl) (b_X11_house_0 (h0 := h) x1  ko w)
theorem b_X11_whyNow_0 {d : Nat} {h0 h : eb_H} {Q : Option Value → eb_H → Prop} (x1 : Int32)  (ko : eb_KO h) (w : eb_Ct d 195 [.ref s_MO] h (fun r h1 => ∃ y2, r = some (.int y2) ∧ eb_KO h1 ∧ eb_Ct d 199 [.ref s_MO, .int y2, .int x1, .int (eb_I h1 s_m_all (50 : Int32).toNatClampNeg)] h1 (fun r h4 => ∃ y5, r = some (.int y5) ∧ eb_KO h4 ∧ Q (some (.int y5)) h4))) : eb_Sn (d + 1) m_X11_whyNow h0 0 [(0, .ref s_MO), (1, .int x1)] [] h Q := by
  refine eb_aload_n (pc := 0) (n := 0) (i := 0) rfl rfl rfl ?_
  refine eb_aload_n (pc := 1) (n := 0) (i := 0) rfl rfl rfl ?_
  refine eb_ctV (pc := 2) (As := []) (rest := [.ref s_MO]) rfl (by decide) rfl rfl (by decide) rfl (Nat.le_of_ble_eq_true rfl) ?_
  refine eb_Ct.mono w ?_
  rintro r h1 ⟨y2, rfl, ko3, w⟩
  change eb_Sn _ _ _ 5 _ [.int y2, .ref s_MO] _ _
  refine eb_iload_n (pc := 5) (n := 1) (i := 1) rfl rfl rfl ?_
  refine eb_aload_n (pc := 6) (n := 0) (i := 0) rfl rfl rfl ?_
  refine eb_getR (pc := 7) rfl rfl (by decide) (by decide) rfl (ko_s_MO_1 ko3) ?_
  refine eb_bipush (pc := 10) (n := 50) (v := 50) rfl rfl ?_
  refine eb_iaload (pc := 12) rfl rfl (by unfold vp_in; decide) ?_
  refine eb_ctV (pc := 13) (As := [.int y2, .int x1, .int (eb_I h1 s_m_all (50 : Int32).toNatClampNeg)]) (rest := []) rfl (by decide) rfl rfl (by decide) rfl (Nat.le_of_ble_eq_true rfl) ?_
  refine eb_Ct.mono w ?_
  rintro r h4 ⟨y5, rfl, ko6, w⟩
  change eb_Sn _ _ _ 16 _ [.int y5] _ _
  exact eb_ireturn (pc := 16) rfl rfl rfl w
theorem T_X11_whyNow {d : Nat} {h : eb_H} {Q : Option Value → eb_H → Prop} (x1 : Int32)  (ko : eb_KO h) (w : eb_Ct d 195 [.ref s_MO] h (fun r h1 => ∃ y2, r = some (.int y2) ∧ eb_KO h1 ∧ eb_Ct d 199 [.ref s_MO, .int y2, .int x1, .int (eb_I h1 s_m_all (50 : Int32).toNatClampNeg)] h1 (fun r h4 => ∃ y5, r = some (.int y5) ∧ eb_KO h4 ∧ Q (some (.int y5)) h4))) : eb_Ct (d + 1) 203 [.ref s_MO, .int x1] h Q :=
  eb_bodyQ (by decide) ok_X11_whyNow (Nat.le_of_ble_eq_true rfl) (b_X11_whyNow_0 (h0 := h) x1  ko w)
theorem b_X11_why_0 {d : Nat} {h0 h : eb_H} {Q : Option Value → eb_H → Prop} (x1 : Int32)  (ko : eb_KO h) (w : eb_Ct d 203 [.ref s_MO, .int x1] (eb_sI h s_MO 0 0) (fun r h1 => ∃ y2, r = some (.int y2) ∧ eb_KO h1 ∧ Q (some (.int y2)) h1)) : eb_Sn (d + 1) m_X11_why h0 0 [(0, .ref s_MO), (1, .int x1)] [] h Q := by
  refine eb_aload_n (pc := 0) (n := 0) (i := 0) rfl rfl rfl ?_
  refine eb_iconst (pc := 1) (n := 0) (v := 0) rfl rfl ?_
  refine eb_putI (pc := 2) rfl rfl (by decide) (by decide) rfl rfl ⟨rfl, rfl⟩ ?_
  refine eb_aload_n (pc := 5) (n := 0) (i := 0) rfl rfl rfl ?_
  refine eb_iload_n (pc := 6) (n := 1) (i := 1) rfl rfl rfl ?_
  refine eb_ctV (pc := 7) (As := [.int x1]) (rest := []) rfl (by decide) rfl rfl (by decide) rfl (Nat.le_of_ble_eq_true rfl) ?_
  refine eb_Ct.mono w ?_
  rintro r h1 ⟨y2, rfl, ko3, w⟩
  change eb_Sn _ _ _ 10 _ [.int y2] _ _
  exact eb_ireturn (pc := 10) rfl rfl rfl w
theorem T_X11_why {d : Nat} {h : eb_H} {Q : Option Value → eb_H → Prop} (x1 : Int32)  (ko : eb_KO h) (w : eb_Ct d 203 [.ref s_MO, .int x1] (eb_sI h s_MO 0 0) (fun r h1 => ∃ y2, r = some (.int y2) ∧ eb_KO h1 ∧ Q (some (.int y2)) h1)) : eb_Ct (d + 1) 204 [.ref s_MO, .int x1] h Q :=
  eb_bodyQ (by decide) ok_X11_why (Nat.le_of_ble_eq_true rfl) (b_X11_why_0 (h0 := h) x1  ko w)
theorem b_X11_by_0 {d : Nat} {h0 h : eb_H} {Q : Option Value → eb_H → Prop} (x1 : Int32) (x2 : Int32)  (ko : eb_KO h) (w : eb_Ct d 156 [.long x2.toInt64, .long 0, .long 1] (eb_sI h s_MO 0 0) (fun r h1 => ∃ y2, r = some (.int y2) ∧ eb_KO h1 ∧ ((¬ y2 = 0 → eb_Ct d 203 [.ref s_MO, .int x1] h1 (fun r h5 => ∃ y6, r = some (.int y6) ∧ eb_KO h5 ∧ ((y6 = 0 → eb_Ct d 195 [.ref s_MO] h5 (fun r h9 => ∃ y10, r = some (.int y10) ∧ eb_KO h9 ∧ eb_Ct d 200 [.ref s_MO, .int y10, .int x1] h9 (fun r h12 => ∃ y13, r = some (.int y13) ∧ eb_KO h12 ∧ Q (some (.int (if x2 = 0 then y13 / 64 else y13 - y13 / 64 * 64 : Int32))) h12))) ∧ (¬ (y6 = 0) → Q (some (.int (-5))) h5)))) ∧ (y2 = 0 → Q (some (.int (-2))) h1)))) : eb_Sn (d + 1) m_X11_by h0 0 [(0, .ref s_MO), (1, .int x1), (2, .int x2)] [] h Q := by
  refine eb_aload_n (pc := 0) (n := 0) (i := 0) rfl rfl rfl ?_
  refine eb_iconst (pc := 1) (n := 0) (v := 0) rfl rfl ?_
  refine eb_putI (pc := 2) rfl rfl (by decide) (by decide) rfl rfl ⟨rfl, rfl⟩ ?_
  refine eb_iload_n (pc := 5) (n := 2) (i := 2) rfl rfl rfl ?_
  refine eb_i2l (pc := 6) rfl ?_
  refine eb_lconst (pc := 7) (n := 0) (v := 0) rfl rfl ?_
  refine eb_lconst (pc := 8) (n := 1) (v := 1) rfl rfl ?_
  refine eb_ctS (pc := 9) (As := [.long x2.toInt64, .long 0, .long 1]) (rest := []) rfl (by decide) (by decide) rfl rfl (Nat.le_of_ble_eq_true rfl) ?_
  refine eb_Ct.mono w ?_
  rintro r h1 ⟨y2, rfl, ko3, w⟩
  change eb_Sn _ _ _ 12 _ [.int y2] _ _
  refine eb_if_ne (pc := 12) (tgt := 18) rfl (by decide) (fun c4 => ?_) (fun c4 => ?_)
  · replace w := w.1 c4
    refine eb_aload_n (pc := 18) (n := 0) (i := 0) rfl rfl rfl ?_
    refine eb_iload_n (pc := 19) (n := 1) (i := 1) rfl rfl rfl ?_
    refine eb_ctV (pc := 20) (As := [.int x1]) (rest := []) rfl (by decide) rfl rfl (by decide) rfl (Nat.le_of_ble_eq_true rfl) ?_
    refine eb_Ct.mono w ?_
    rintro r h5 ⟨y6, rfl, ko7, w⟩
    change eb_Sn _ _ _ 23 _ [.int y6] _ _
    refine eb_if_eq (pc := 23) (tgt := 29) rfl (by decide) (fun c8 => ?_) (fun c8 => ?_)
    · replace w := w.1 c8
      refine eb_aload_n (pc := 29) (n := 0) (i := 0) rfl rfl rfl ?_
      refine eb_aload_n (pc := 30) (n := 0) (i := 0) rfl rfl rfl ?_
      refine eb_ctV (pc := 31) (As := []) (rest := [.ref s_MO]) rfl (by decide) rfl rfl (by decide) rfl (Nat.le_of_ble_eq_true rfl) ?_
      refine eb_Ct.mono w ?_
      rintro r h9 ⟨y10, rfl, ko11, w⟩
      change eb_Sn _ _ _ 34 _ [.int y10, .ref s_MO] _ _
      refine eb_iload_n (pc := 34) (n := 1) (i := 1) rfl rfl rfl ?_
      refine eb_ctV (pc := 35) (As := [.int y10, .int x1]) (rest := []) rfl (by decide) rfl rfl (by decide) rfl (Nat.le_of_ble_eq_true rfl) ?_
      refine eb_Ct.mono w ?_
      rintro r h12 ⟨y13, rfl, ko14, w⟩
      change eb_Sn _ _ _ 38 _ [.int y13] _ _
      refine eb_istore_n (pc := 38) (n := 3) (i := 3) (ls2 := [(3, .int y13), (0, .ref s_MO), (1, .int x1), (2, .int x2)]) rfl (Nat.le_of_ble_eq_true rfl) rfl rfl ?_
      refine eb_iload_n (pc := 39) (n := 2) (i := 2) rfl rfl rfl ?_
      have jj16 : eb_Sn (d + 1) m_X11_by h0 54 [(3, .int y13), (0, .ref s_MO), (1, .int x1), (2, .int x2)] [.int (if x2 = 0 then y13 / 64 else y13 - y13 / 64 * 64 : Int32)] h12 Q := by
        exact eb_ireturn (pc := 54) rfl rfl rfl w
      refine eb_if_ne (pc := 40) (tgt := 50) rfl (by decide) (fun c15 => ?_) (fun c15 => ?_)
      · refine eb_iload_n (pc := 50) (n := 3) (i := 3) rfl rfl rfl ?_
        refine eb_bipush (pc := 51) (n := 64) (v := 64) rfl rfl ?_
        refine eb_irem (pc := 53) (by decide) rfl ?_
        simp only [if_neg c15] at jj16 ⊢
        exact jj16
      · refine eb_iload_n (pc := 43) (n := 3) (i := 3) rfl rfl rfl ?_
        refine eb_bipush (pc := 44) (n := 64) (v := 64) rfl rfl ?_
        refine eb_idiv (pc := 46) (by decide) rfl ?_
        refine eb_goto (pc := 47) (tgt := 54) rfl (by decide) ?_
        simp only [if_pos c15] at jj16 ⊢
        exact jj16
    · replace w := w.2 c8
      refine eb_bipush (pc := 26) (n := -5) (v := (-5)) rfl rfl ?_
      exact eb_ireturn (pc := 28) rfl rfl rfl w
  · replace w := w.2 c4
    refine eb_bipush (pc := 15) (n := -2) (v := (-2)) rfl rfl ?_
    exact eb_ireturn (pc := 17) rfl rfl rfl w
theorem T_X11_by {d : Nat} {h : eb_H} {Q : Option Value → eb_H → Prop} (x1 : Int32) (x2 : Int32)  (ko : eb_KO h) (w : eb_Ct d 156 [.long x2.toInt64, .long 0, .long 1] (eb_sI h s_MO 0 0) (fun r h1 => ∃ y2, r = some (.int y2) ∧ eb_KO h1 ∧ ((¬ y2 = 0 → eb_Ct d 203 [.ref s_MO, .int x1] h1 (fun r h5 => ∃ y6, r = some (.int y6) ∧ eb_KO h5 ∧ ((y6 = 0 → eb_Ct d 195 [.ref s_MO] h5 (fun r h9 => ∃ y10, r = some (.int y10) ∧ eb_KO h9 ∧ eb_Ct d 200 [.ref s_MO, .int y10, .int x1] h9 (fun r h12 => ∃ y13, r = some (.int y13) ∧ eb_KO h12 ∧ Q (some (.int (if x2 = 0 then y13 / 64 else y13 - y13 / 64 * 64 : Int32))) h12))) ∧ (¬ (y6 = 0) → Q (some (.int (-5))) h5)))) ∧ (y2 = 0 → Q (some (.int (-2))) h1)))) : eb_Ct (d + 1) 205 [.ref s_MO, .int x1, .int x2] h Q :=
  eb_bodyQ (by decide) ok_X11_by (Nat.le_of_ble_eq_true rfl) (b_X11_by_0 (h0 := h) x1 x2  ko w)
theorem b_X11_keeps_0 {d : Nat} {h0 h : eb_H} {Q : Option Value → eb_H → Prop}   (ko : eb_KO h) (w : eb_Sn d m_X11_keeps h0 2 [(0, .ref s_MO), (1, .int 0)] [] h Q) : eb_Sn d m_X11_keeps h0 0 [(0, .ref s_MO)] [] h Q := by
  refine eb_iconst (pc := 0) (n := 0) (v := 0) rfl rfl ?_
  refine eb_istore_n (pc := 1) (n := 1) (i := 1) (ls2 := [(1, .int 0), (0, .ref s_MO)]) rfl (Nat.le_of_ble_eq_true rfl) rfl rfl ?_
  exact eb_pick [1, 0] rfl w
theorem b_X11_keeps_2 {d : Nat} {h0 h : eb_H} {Q : Option Value → eb_H → Prop} (x1 : Int32)  (ko : eb_KO h) (w : (((21 : Int32) ≤ x1 → Q none h) ∧ (¬ ((21 : Int32) ≤ x1) → (vp_in ((31 : Int32) + x1) 3492) ∧ (vp_in x1 21) ∧ eb_Sn d m_X11_keeps h0 2 [(0, .ref s_MO), (1, .int (x1 + 1))] [] (eb_sI h s_m_was x1.toNatClampNeg (eb_I h s_m_all ((31 : Int32) + x1).toNatClampNeg)) Q))) : eb_Sn d m_X11_keeps h0 2 [(0, .ref s_MO), (1, .int x1)] [] h Q := by
  refine eb_iload_n (pc := 2) (n := 1) (i := 1) rfl rfl rfl ?_
  refine eb_bipush (pc := 3) (n := 21) (v := 21) rfl rfl ?_
  refine eb_icmp_ge (pc := 5) (tgt := 29) rfl (by decide) (fun c1 => ?_) (fun c1 => ?_)
  · replace w := w.1 c1
    exact eb_return (pc := 29) rfl rfl w
  · replace w := w.2 c1
    refine eb_aload_n (pc := 8) (n := 0) (i := 0) rfl rfl rfl ?_
    refine eb_getR (pc := 9) rfl rfl (by decide) (by decide) rfl (ko_s_MO_18 ko) ?_
    refine eb_iload_n (pc := 12) (n := 1) (i := 1) rfl rfl rfl ?_
    refine eb_aload_n (pc := 13) (n := 0) (i := 0) rfl rfl rfl ?_
    refine eb_getR (pc := 14) rfl rfl (by decide) (by decide) rfl (ko_s_MO_1 ko) ?_
    refine eb_bipush (pc := 17) (n := 31) (v := 31) rfl rfl ?_
    refine eb_iload_n (pc := 19) (n := 1) (i := 1) rfl rfl rfl ?_
    refine eb_iadd (pc := 20) rfl ?_
    obtain ⟨c2, w⟩ := w
    refine eb_iaload (pc := 21) rfl rfl c2 ?_
    obtain ⟨c3, w⟩ := w
    refine eb_iastore (pc := 22) rfl rfl c3 ?_
    refine eb_iinc (pc := 23) (i := 1) (n := 1) (v := x1 + 1) (ls2 := [(1, .int (x1 + 1)), (0, .ref s_MO)]) (Nat.le_of_ble_eq_true rfl) rfl rfl rfl rfl ?_
    refine eb_goto (pc := 26) (tgt := 2) rfl (by decide) ?_
    exact eb_pick [1, 0] rfl w
theorem T_X11_keeps {d : Nat} {h : eb_H} {Q : Option Value → eb_H → Prop}   (ko : eb_KO h) (w : eb_Sn d m_X11_keeps h 2 [(0, .ref s_MO), (1, .int 0)] [] h Q) : eb_Ct d 206 [.ref s_MO] h Q :=
  eb_bodyQ (by decide) ok_X11_keeps (Nat.le_of_ble_eq_true rfl) (b_X11_keeps_0 (h0 := h)   ko w)
theorem b_X11_isAgain_0 {d : Nat} {h0 h : eb_H} {Q : Option Value → eb_H → Prop}   (ko : eb_KO h) (w : eb_Sn d m_X11_isAgain h0 2 [(0, .ref s_MO), (1, .int 0)] [] h Q) : eb_Sn d m_X11_isAgain h0 0 [(0, .ref s_MO)] [] h Q := by
  refine eb_iconst (pc := 0) (n := 0) (v := 0) rfl rfl ?_
  refine eb_istore_n (pc := 1) (n := 1) (i := 1) (ls2 := [(1, .int 0), (0, .ref s_MO)]) rfl (Nat.le_of_ble_eq_true rfl) rfl rfl ?_
  exact eb_pick [1, 0] rfl w
theorem b_X11_isAgain_2 {d : Nat} {h0 h : eb_H} {Q : Option Value → eb_H → Prop} (x1 : Int32)  (ko : eb_KO h) (w : (((21 : Int32) ≤ x1 → Q none h) ∧ (¬ ((21 : Int32) ≤ x1) → (vp_in x1 21) ∧ (vp_in ((31 : Int32) + x1) 3492) ∧ eb_Sn d m_X11_isAgain h0 2 [(0, .ref s_MO), (1, .int (x1 + 1))] [] (eb_sI h s_m_all ((31 : Int32) + x1).toNatClampNeg (eb_I h s_m_was x1.toNatClampNeg)) Q))) : eb_Sn d m_X11_isAgain h0 2 [(0, .ref s_MO), (1, .int x1)] [] h Q := by
  refine eb_iload_n (pc := 2) (n := 1) (i := 1) rfl rfl rfl ?_
  refine eb_bipush (pc := 3) (n := 21) (v := 21) rfl rfl ?_
  refine eb_icmp_ge (pc := 5) (tgt := 29) rfl (by decide) (fun c1 => ?_) (fun c1 => ?_)
  · replace w := w.1 c1
    exact eb_return (pc := 29) rfl rfl w
  · replace w := w.2 c1
    refine eb_aload_n (pc := 8) (n := 0) (i := 0) rfl rfl rfl ?_
    refine eb_getR (pc := 9) rfl rfl (by decide) (by decide) rfl (ko_s_MO_1 ko) ?_
    refine eb_bipush (pc := 12) (n := 31) (v := 31) rfl rfl ?_
    refine eb_iload_n (pc := 14) (n := 1) (i := 1) rfl rfl rfl ?_
    refine eb_iadd (pc := 15) rfl ?_
    refine eb_aload_n (pc := 16) (n := 0) (i := 0) rfl rfl rfl ?_
    refine eb_getR (pc := 17) rfl rfl (by decide) (by decide) rfl (ko_s_MO_18 ko) ?_
    refine eb_iload_n (pc := 20) (n := 1) (i := 1) rfl rfl rfl ?_
    obtain ⟨c2, w⟩ := w
    refine eb_iaload (pc := 21) rfl rfl c2 ?_
    obtain ⟨c3, w⟩ := w
    refine eb_iastore (pc := 22) rfl rfl c3 ?_
    refine eb_iinc (pc := 23) (i := 1) (n := 1) (v := x1 + 1) (ls2 := [(1, .int (x1 + 1)), (0, .ref s_MO)]) (Nat.le_of_ble_eq_true rfl) rfl rfl rfl rfl ?_
    refine eb_goto (pc := 26) (tgt := 2) rfl (by decide) ?_
    exact eb_pick [1, 0] rfl w
theorem T_X11_isAgain {d : Nat} {h : eb_H} {Q : Option Value → eb_H → Prop}   (ko : eb_KO h) (w : eb_Sn d m_X11_isAgain h 2 [(0, .ref s_MO), (1, .int 0)] [] h Q) : eb_Ct d 207 [.ref s_MO] h Q :=
  eb_bodyQ (by decide) ok_X11_isAgain (Nat.le_of_ble_eq_true rfl) (b_X11_isAgain_0 (h0 := h)   ko w)
theorem b_X11_notes_0 {d : Nat} {h0 h : eb_H} {Q : Option Value → eb_H → Prop}   (ko : eb_KO h) (w : ((¬ (eb_I h s_m_all (52 : Int32).toNatClampNeg) = (10 : Int32) → eb_Sn d m_X11_notes h0 58 [(0, .ref s_MO), (1, .int 0)] [] h Q) ∧ ((eb_I h s_m_all (52 : Int32).toNatClampNeg) = (10 : Int32) → eb_Sn d m_X11_notes h0 14 [(0, .ref s_MO), (1, .int 0)] [] h Q))) : eb_Sn d m_X11_notes h0 0 [(0, .ref s_MO)] [] h Q := by
  refine eb_aload_n (pc := 0) (n := 0) (i := 0) rfl rfl rfl ?_
  refine eb_getR (pc := 1) rfl rfl (by decide) (by decide) rfl (ko_s_MO_1 ko) ?_
  refine eb_bipush (pc := 4) (n := 52) (v := 52) rfl rfl ?_
  refine eb_iaload (pc := 6) rfl rfl (by unfold vp_in; decide) ?_
  refine eb_bipush (pc := 7) (n := 10) (v := 10) rfl rfl ?_
  refine eb_icmp_ne (pc := 9) (tgt := 56) rfl (by decide) (fun c1 => ?_) (fun c1 => ?_)
  · replace w := w.1 c1
    refine eb_iconst (pc := 56) (n := 0) (v := 0) rfl rfl ?_
    refine eb_istore_n (pc := 57) (n := 1) (i := 1) (ls2 := [(1, .int 0), (0, .ref s_MO)]) rfl (Nat.le_of_ble_eq_true rfl) rfl rfl ?_
    exact eb_pick [1, 0] rfl w
  · replace w := w.2 c1
    refine eb_iconst (pc := 12) (n := 0) (v := 0) rfl rfl ?_
    refine eb_istore_n (pc := 13) (n := 1) (i := 1) (ls2 := [(1, .int 0), (0, .ref s_MO)]) rfl (Nat.le_of_ble_eq_true rfl) rfl rfl ?_
    exact eb_pick [1, 0] rfl w
theorem b_X11_notes_58 {d : Nat} {h0 h : eb_H} {Q : Option Value → eb_H → Prop} (x1 : Int32)  (ko : eb_KO h) (w : (((21 : Int32) ≤ x1 → Q none (eb_sI h s_m_all (52 : Int32).toNatClampNeg ((eb_I h s_m_all (52 : Int32).toNatClampNeg) + 1))) ∧ (¬ ((21 : Int32) ≤ x1) → (vp_in x1 21) ∧ (vp_in (((53 : Int32) + ((21 : Int32) * (eb_I h s_m_all (52 : Int32).toNatClampNeg))) + x1) 3492) ∧ eb_Sn d m_X11_notes h0 58 [(0, .ref s_MO), (1, .int (x1 + 1))] [] (eb_sI h s_m_all (((53 : Int32) + ((21 : Int32) * (eb_I h s_m_all (52 : Int32).toNatClampNeg))) + x1).toNatClampNeg (eb_I h s_m_was x1.toNatClampNeg)) Q))) : eb_Sn d m_X11_notes h0 58 [(0, .ref s_MO), (1, .int x1)] [] h Q := by
  refine eb_iload_n (pc := 58) (n := 1) (i := 1) rfl rfl rfl ?_
  refine eb_bipush (pc := 59) (n := 21) (v := 21) rfl rfl ?_
  refine eb_icmp_ge (pc := 61) (tgt := 96) rfl (by decide) (fun c1 => ?_) (fun c1 => ?_)
  · replace w := w.1 c1
    refine eb_aload_n (pc := 96) (n := 0) (i := 0) rfl rfl rfl ?_
    refine eb_getR (pc := 97) rfl rfl (by decide) (by decide) rfl (ko_s_MO_1 ko) ?_
    refine eb_bipush (pc := 100) (n := 52) (v := 52) rfl rfl ?_
    refine eb_dup2 (pc := 102) rfl ?_
    refine eb_iaload (pc := 103) rfl rfl (by unfold vp_in; decide) ?_
    refine eb_iconst (pc := 104) (n := 1) (v := 1) rfl rfl ?_
    refine eb_iadd (pc := 105) rfl ?_
    refine eb_iastore (pc := 106) rfl rfl (by unfold vp_in; decide) ?_
    exact eb_return (pc := 107) rfl rfl w
  · replace w := w.2 c1
    refine eb_aload_n (pc := 64) (n := 0) (i := 0) rfl rfl rfl ?_
    refine eb_getR (pc := 65) rfl rfl (by decide) (by decide) rfl (ko_s_MO_1 ko) ?_
    refine eb_bipush (pc := 68) (n := 53) (v := 53) rfl rfl ?_
    refine eb_bipush (pc := 70) (n := 21) (v := 21) rfl rfl ?_
    refine eb_aload_n (pc := 72) (n := 0) (i := 0) rfl rfl rfl ?_
    refine eb_getR (pc := 73) rfl rfl (by decide) (by decide) rfl (ko_s_MO_1 ko) ?_
    refine eb_bipush (pc := 76) (n := 52) (v := 52) rfl rfl ?_
    refine eb_iaload (pc := 78) rfl rfl (by unfold vp_in; decide) ?_
    refine eb_imul (pc := 79) rfl ?_
    refine eb_iadd (pc := 80) rfl ?_
    refine eb_iload_n (pc := 81) (n := 1) (i := 1) rfl rfl rfl ?_
    refine eb_iadd (pc := 82) rfl ?_
    refine eb_aload_n (pc := 83) (n := 0) (i := 0) rfl rfl rfl ?_
    refine eb_getR (pc := 84) rfl rfl (by decide) (by decide) rfl (ko_s_MO_18 ko) ?_
    refine eb_iload_n (pc := 87) (n := 1) (i := 1) rfl rfl rfl ?_
    obtain ⟨c2, w⟩ := w
    refine eb_iaload (pc := 88) rfl rfl c2 ?_
    obtain ⟨c3, w⟩ := w
    refine eb_iastore (pc := 89) rfl rfl c3 ?_
    refine eb_iinc (pc := 90) (i := 1) (n := 1) (v := x1 + 1) (ls2 := [(1, .int (x1 + 1)), (0, .ref s_MO)]) (Nat.le_of_ble_eq_true rfl) rfl rfl rfl rfl ?_
    refine eb_goto (pc := 93) (tgt := 58) rfl (by decide) ?_
    exact eb_pick [1, 0] rfl w
theorem b_X11_notes_14 {d : Nat} {h0 h : eb_H} {Q : Option Value → eb_H → Prop} (x1 : Int32)  (ko : eb_KO h) (w : (((189 : Int32) ≤ x1 → eb_Sn d m_X11_notes h0 58 [(0, .ref s_MO), (1, .int 0)] [] (eb_sI h s_m_all (52 : Int32).toNatClampNeg ((eb_I h s_m_all (52 : Int32).toNatClampNeg) - 1)) Q) ∧ (¬ ((189 : Int32) ≤ x1) → (vp_in ((74 : Int32) + x1) 3492) ∧ (vp_in ((53 : Int32) + x1) 3492) ∧ eb_Sn d m_X11_notes h0 14 [(0, .ref s_MO), (1, .int (x1 + 1))] [] (eb_sI h s_m_all ((53 : Int32) + x1).toNatClampNeg (eb_I h s_m_all ((74 : Int32) + x1).toNatClampNeg)) Q))) : eb_Sn d m_X11_notes h0 14 [(0, .ref s_MO), (1, .int x1)] [] h Q := by
  refine eb_iload_n (pc := 14) (n := 1) (i := 1) rfl rfl rfl ?_
  refine eb_sipush (pc := 15) (n := 189) (v := 189) rfl rfl ?_
  refine eb_icmp_ge (pc := 18) (tgt := 45) rfl (by decide) (fun c1 => ?_) (fun c1 => ?_)
  · replace w := w.1 c1
    refine eb_aload_n (pc := 45) (n := 0) (i := 0) rfl rfl rfl ?_
    refine eb_getR (pc := 46) rfl rfl (by decide) (by decide) rfl (ko_s_MO_1 ko) ?_
    refine eb_bipush (pc := 49) (n := 52) (v := 52) rfl rfl ?_
    refine eb_dup2 (pc := 51) rfl ?_
    refine eb_iaload (pc := 52) rfl rfl (by unfold vp_in; decide) ?_
    refine eb_iconst (pc := 53) (n := 1) (v := 1) rfl rfl ?_
    refine eb_isub (pc := 54) rfl ?_
    refine eb_iastore (pc := 55) rfl rfl (by unfold vp_in; decide) ?_
    refine eb_iconst (pc := 56) (n := 0) (v := 0) rfl rfl ?_
    refine eb_istore_n (pc := 57) (n := 1) (i := 1) (ls2 := [(1, .int 0), (0, .ref s_MO)]) rfl (Nat.le_of_ble_eq_true rfl) rfl rfl ?_
    exact eb_pick [1, 0] rfl w
  · replace w := w.2 c1
    refine eb_aload_n (pc := 21) (n := 0) (i := 0) rfl rfl rfl ?_
    refine eb_getR (pc := 22) rfl rfl (by decide) (by decide) rfl (ko_s_MO_1 ko) ?_
    refine eb_bipush (pc := 25) (n := 53) (v := 53) rfl rfl ?_
    refine eb_iload_n (pc := 27) (n := 1) (i := 1) rfl rfl rfl ?_
    refine eb_iadd (pc := 28) rfl ?_
    refine eb_aload_n (pc := 29) (n := 0) (i := 0) rfl rfl rfl ?_
    refine eb_getR (pc := 30) rfl rfl (by decide) (by decide) rfl (ko_s_MO_1 ko) ?_
    refine eb_bipush (pc := 33) (n := 74) (v := 74) rfl rfl ?_
    refine eb_iload_n (pc := 35) (n := 1) (i := 1) rfl rfl rfl ?_
    refine eb_iadd (pc := 36) rfl ?_
    obtain ⟨c2, w⟩ := w
    refine eb_iaload (pc := 37) rfl rfl c2 ?_
    obtain ⟨c3, w⟩ := w
    refine eb_iastore (pc := 38) rfl rfl c3 ?_
    refine eb_iinc (pc := 39) (i := 1) (n := 1) (v := x1 + 1) (ls2 := [(1, .int (x1 + 1)), (0, .ref s_MO)]) (Nat.le_of_ble_eq_true rfl) rfl rfl rfl rfl ?_
    refine eb_goto (pc := 42) (tgt := 14) rfl (by decide) ?_
    exact eb_pick [1, 0] rfl w
theorem T_X11_notes {d : Nat} {h : eb_H} {Q : Option Value → eb_H → Prop}   (ko : eb_KO h) (w : ((¬ (eb_I h s_m_all (52 : Int32).toNatClampNeg) = (10 : Int32) → eb_Sn d m_X11_notes h 58 [(0, .ref s_MO), (1, .int 0)] [] h Q) ∧ ((eb_I h s_m_all (52 : Int32).toNatClampNeg) = (10 : Int32) → eb_Sn d m_X11_notes h 14 [(0, .ref s_MO), (1, .int 0)] [] h Q))) : eb_Ct d 208 [.ref s_MO] h Q :=
  eb_bodyQ (by decide) ok_X11_notes (Nat.le_of_ble_eq_true rfl) (b_X11_notes_0 (h0 := h)   ko w)
theorem b_X11_flies_0 {d : Nat} {h0 h : eb_H} {Q : Option Value → eb_H → Prop} (x1 : Int32)  (ko : eb_KO h) (w : eb_Ct d 195 [.ref s_MO] h (fun r h1 => ∃ y2, r = some (.int y2) ∧ eb_KO h1 ∧ eb_Ct d 200 [.ref s_MO, .int y2, .int x1] h1 (fun r h4 => ∃ y5, r = some (.int y5) ∧ eb_KO h4 ∧ Q none (eb_sI (eb_sI (eb_sI h4 s_m_all (31 : Int32).toNatClampNeg (y5 / 64)) s_m_all (32 : Int32).toNatClampNeg (y5 - y5 / 64 * 64)) s_m_all (33 : Int32).toNatClampNeg ((eb_I (eb_sI (eb_sI h4 s_m_all (31 : Int32).toNatClampNeg (y5 / 64)) s_m_all (32 : Int32).toNatClampNeg (y5 - y5 / 64 * 64)) s_m_all (33 : Int32).toNatClampNeg) + 1))))) : eb_Sn (d + 1) m_X11_flies h0 0 [(0, .ref s_MO), (1, .int x1)] [] h Q := by
  refine eb_aload_n (pc := 0) (n := 0) (i := 0) rfl rfl rfl ?_
  refine eb_aload_n (pc := 1) (n := 0) (i := 0) rfl rfl rfl ?_
  refine eb_ctV (pc := 2) (As := []) (rest := [.ref s_MO]) rfl (by decide) rfl rfl (by decide) rfl (Nat.le_of_ble_eq_true rfl) ?_
  refine eb_Ct.mono w ?_
  rintro r h1 ⟨y2, rfl, ko3, w⟩
  change eb_Sn _ _ _ 5 _ [.int y2, .ref s_MO] _ _
  refine eb_iload_n (pc := 5) (n := 1) (i := 1) rfl rfl rfl ?_
  refine eb_ctV (pc := 6) (As := [.int y2, .int x1]) (rest := []) rfl (by decide) rfl rfl (by decide) rfl (Nat.le_of_ble_eq_true rfl) ?_
  refine eb_Ct.mono w ?_
  rintro r h4 ⟨y5, rfl, ko6, w⟩
  change eb_Sn _ _ _ 9 _ [.int y5] _ _
  refine eb_istore_n (pc := 9) (n := 2) (i := 2) (ls2 := [(2, .int y5), (0, .ref s_MO), (1, .int x1)]) rfl (Nat.le_of_ble_eq_true rfl) rfl rfl ?_
  refine eb_aload_n (pc := 10) (n := 0) (i := 0) rfl rfl rfl ?_
  refine eb_getR (pc := 11) rfl rfl (by decide) (by decide) rfl (ko_s_MO_1 ko6) ?_
  refine eb_bipush (pc := 14) (n := 31) (v := 31) rfl rfl ?_
  refine eb_iload_n (pc := 16) (n := 2) (i := 2) rfl rfl rfl ?_
  refine eb_bipush (pc := 17) (n := 64) (v := 64) rfl rfl ?_
  refine eb_idiv (pc := 19) (by decide) rfl ?_
  refine eb_iastore (pc := 20) rfl rfl (by unfold vp_in; decide) ?_
  refine eb_aload_n (pc := 21) (n := 0) (i := 0) rfl rfl rfl ?_
  refine eb_getR (pc := 22) rfl rfl (by decide) (by decide) rfl (ko_s_MO_1 ko6) ?_
  refine eb_bipush (pc := 25) (n := 32) (v := 32) rfl rfl ?_
  refine eb_iload_n (pc := 27) (n := 2) (i := 2) rfl rfl rfl ?_
  refine eb_bipush (pc := 28) (n := 64) (v := 64) rfl rfl ?_
  refine eb_irem (pc := 30) (by decide) rfl ?_
  refine eb_iastore (pc := 31) rfl rfl (by unfold vp_in; decide) ?_
  refine eb_aload_n (pc := 32) (n := 0) (i := 0) rfl rfl rfl ?_
  refine eb_getR (pc := 33) rfl rfl (by decide) (by decide) rfl (ko_s_MO_1 ko6) ?_
  refine eb_bipush (pc := 36) (n := 33) (v := 33) rfl rfl ?_
  refine eb_dup2 (pc := 38) rfl ?_
  refine eb_iaload (pc := 39) rfl rfl (by unfold vp_in; decide) ?_
  refine eb_iconst (pc := 40) (n := 1) (v := 1) rfl rfl ?_
  refine eb_iadd (pc := 41) rfl ?_
  refine eb_iastore (pc := 42) rfl rfl (by unfold vp_in; decide) ?_
  exact eb_return (pc := 43) rfl rfl w
theorem T_X11_flies {d : Nat} {h : eb_H} {Q : Option Value → eb_H → Prop} (x1 : Int32)  (ko : eb_KO h) (w : eb_Ct d 195 [.ref s_MO] h (fun r h1 => ∃ y2, r = some (.int y2) ∧ eb_KO h1 ∧ eb_Ct d 200 [.ref s_MO, .int y2, .int x1] h1 (fun r h4 => ∃ y5, r = some (.int y5) ∧ eb_KO h4 ∧ Q none (eb_sI (eb_sI (eb_sI h4 s_m_all (31 : Int32).toNatClampNeg (y5 / 64)) s_m_all (32 : Int32).toNatClampNeg (y5 - y5 / 64 * 64)) s_m_all (33 : Int32).toNatClampNeg ((eb_I (eb_sI (eb_sI h4 s_m_all (31 : Int32).toNatClampNeg (y5 / 64)) s_m_all (32 : Int32).toNatClampNeg (y5 - y5 / 64 * 64)) s_m_all (33 : Int32).toNatClampNeg) + 1))))) : eb_Ct (d + 1) 209 [.ref s_MO, .int x1] h Q :=
  eb_bodyQ (by decide) ok_X11_flies (Nat.le_of_ble_eq_true rfl) (b_X11_flies_0 (h0 := h) x1  ko w)
theorem b_X11_letsGo_0 {d : Nat} {h0 h : eb_H} {Q : Option Value → eb_H → Prop} (x1 : Int32)  (ko : eb_KO h) (w : Q none (eb_sI (eb_sI h s_m_all (31 : Int32).toNatClampNeg x1) s_m_all (32 : Int32).toNatClampNeg 0)) : eb_Sn d m_X11_letsGo h0 0 [(0, .ref s_MO), (1, .int x1)] [] h Q := by
  refine eb_aload_n (pc := 0) (n := 0) (i := 0) rfl rfl rfl ?_
  refine eb_getR (pc := 1) rfl rfl (by decide) (by decide) rfl (ko_s_MO_1 ko) ?_
  refine eb_bipush (pc := 4) (n := 31) (v := 31) rfl rfl ?_
  refine eb_iload_n (pc := 6) (n := 1) (i := 1) rfl rfl rfl ?_
  refine eb_iastore (pc := 7) rfl rfl (by unfold vp_in; decide) ?_
  refine eb_aload_n (pc := 8) (n := 0) (i := 0) rfl rfl rfl ?_
  refine eb_getR (pc := 9) rfl rfl (by decide) (by decide) rfl (ko_s_MO_1 ko) ?_
  refine eb_bipush (pc := 12) (n := 32) (v := 32) rfl rfl ?_
  refine eb_iconst (pc := 14) (n := 0) (v := 0) rfl rfl ?_
  refine eb_iastore (pc := 15) rfl rfl (by unfold vp_in; decide) ?_
  exact eb_return (pc := 16) rfl rfl w
theorem T_X11_letsGo {d : Nat} {h : eb_H} {Q : Option Value → eb_H → Prop} (x1 : Int32)  (ko : eb_KO h) (w : Q none (eb_sI (eb_sI h s_m_all (31 : Int32).toNatClampNeg x1) s_m_all (32 : Int32).toNatClampNeg 0)) : eb_Ct d 210 [.ref s_MO, .int x1] h Q :=
  eb_bodyQ (by decide) ok_X11_letsGo (Nat.le_of_ble_eq_true rfl) (b_X11_letsGo_0 (h0 := h) x1  ko w)
theorem b_X11_isKind_0 {d : Nat} {h0 h : eb_H} {Q : Option Value → eb_H → Prop} (x0 : Int64)  (ko : eb_KO h) (w : eb_Ct d 156 [.long x0, .long 0, .long 6] h (fun r h1 => ∃ y2, r = some (.int y2) ∧ eb_KO h1 ∧ (narrow .boolean (.int y2) = .int y2) ∧ Q (some (.int y2)) h1)) : eb_Sn (d + 1) m_X11_isKind h0 0 [(0, .long x0)] [] h Q := by
  refine eb_lload_n (pc := 0) (n := 0) (i := 0) rfl rfl rfl ?_
  refine eb_lconst (pc := 1) (n := 0) (v := 0) rfl rfl ?_
  refine eb_ldc2 (pc := 2) (a := 6) (v := 6) rfl (by decide) ?_
  refine eb_ctS (pc := 5) (As := [.long x0, .long 0, .long 6]) (rest := []) rfl (by decide) (by decide) rfl rfl (Nat.le_of_ble_eq_true rfl) ?_
  refine eb_Ct.mono w ?_
  rintro r h1 ⟨y2, rfl, ko3, w⟩
  change eb_Sn _ _ _ 8 _ [.int y2] _ _
  obtain ⟨c4, w⟩ := w
  exact eb_ireturn (pc := 8) rfl rfl c4 w
theorem T_X11_isKind {d : Nat} {h : eb_H} {Q : Option Value → eb_H → Prop} (x0 : Int64)  (ko : eb_KO h) (w : eb_Ct d 156 [.long x0, .long 0, .long 6] h (fun r h1 => ∃ y2, r = some (.int y2) ∧ eb_KO h1 ∧ (narrow .boolean (.int y2) = .int y2) ∧ Q (some (.int y2)) h1)) : eb_Ct (d + 1) 211 [.long x0] h Q :=
  eb_bodyQ (by decide) ok_X11_isKind (Nat.le_of_ble_eq_true rfl) (b_X11_isKind_0 (h0 := h) x0  ko w)
theorem b_X11_fly_0 {d : Nat} {h0 h : eb_H} {Q : Option Value → eb_H → Prop} (x1 : Int32)  (ko : eb_KO h) (w : eb_Ct d 203 [.ref s_MO, .int x1] (eb_sI h s_MO 0 0) (fun r h1 => ∃ y2, r = some (.int y2) ∧ eb_KO h1 ∧ ((y2 = 0 → eb_Ct d 206 [.ref s_MO] h1 (fun r h5 => r = none ∧ eb_KO h5 ∧ eb_Ct d 209 [.ref s_MO, .int x1] h5 (fun r h8 => r = none ∧ eb_KO h8 ∧ eb_Ct d 208 [.ref s_MO] h8 (fun r h11 => r = none ∧ eb_KO h11 ∧ ((¬ (eb_I h11 s_m_all (32 : Int32).toNatClampNeg) = (eb_I h11 s_m_was (1 : Int32).toNatClampNeg) → (vp_in ((34 : Int32) + (eb_I h11 s_m_all (31 : Int32).toNatClampNeg)) 3492) ∧ Q (some (.int (eb_I h11 s_m_all ((34 : Int32) + (eb_I h11 s_m_all (31 : Int32).toNatClampNeg)).toNatClampNeg))) h11) ∧ ((eb_I h11 s_m_all (32 : Int32).toNatClampNeg) = (eb_I h11 s_m_was (1 : Int32).toNatClampNeg) → Q (some (.int 0)) h11)))))) ∧ (¬ (y2 = 0) → Q (some (.int (((-10) : Int32) - y2))) h1)))) : eb_Sn (d + 1) m_X11_fly h0 0 [(0, .ref s_MO), (1, .int x1)] [] h Q := by
  refine eb_aload_n (pc := 0) (n := 0) (i := 0) rfl rfl rfl ?_
  refine eb_iconst (pc := 1) (n := 0) (v := 0) rfl rfl ?_
  refine eb_putI (pc := 2) rfl rfl (by decide) (by decide) rfl rfl ⟨rfl, rfl⟩ ?_
  refine eb_aload_n (pc := 5) (n := 0) (i := 0) rfl rfl rfl ?_
  refine eb_iload_n (pc := 6) (n := 1) (i := 1) rfl rfl rfl ?_
  refine eb_ctV (pc := 7) (As := [.int x1]) (rest := []) rfl (by decide) rfl rfl (by decide) rfl (Nat.le_of_ble_eq_true rfl) ?_
  refine eb_Ct.mono w ?_
  rintro r h1 ⟨y2, rfl, ko3, w⟩
  change eb_Sn _ _ _ 10 _ [.int y2] _ _
  refine eb_istore_n (pc := 10) (n := 2) (i := 2) (ls2 := [(2, .int y2), (0, .ref s_MO), (1, .int x1)]) rfl (Nat.le_of_ble_eq_true rfl) rfl rfl ?_
  refine eb_iload_n (pc := 11) (n := 2) (i := 2) rfl rfl rfl ?_
  refine eb_if_eq (pc := 12) (tgt := 20) rfl (by decide) (fun c4 => ?_) (fun c4 => ?_)
  · replace w := w.1 c4
    refine eb_aload_n (pc := 20) (n := 0) (i := 0) rfl rfl rfl ?_
    refine eb_ctV (pc := 21) (As := []) (rest := []) rfl (by decide) rfl rfl (by decide) rfl (Nat.le_of_ble_eq_true rfl) ?_
    refine eb_Ct.mono w ?_
    rintro r h5 ⟨rfl, ko7, w⟩
    change eb_Sn _ _ _ 24 _ [] _ _
    refine eb_aload_n (pc := 24) (n := 0) (i := 0) rfl rfl rfl ?_
    refine eb_iload_n (pc := 25) (n := 1) (i := 1) rfl rfl rfl ?_
    refine eb_ctV (pc := 26) (As := [.int x1]) (rest := []) rfl (by decide) rfl rfl (by decide) rfl (Nat.le_of_ble_eq_true rfl) ?_
    refine eb_Ct.mono w ?_
    rintro r h8 ⟨rfl, ko10, w⟩
    change eb_Sn _ _ _ 29 _ [] _ _
    refine eb_aload_n (pc := 29) (n := 0) (i := 0) rfl rfl rfl ?_
    refine eb_ctV (pc := 30) (As := []) (rest := []) rfl (by decide) rfl rfl (by decide) rfl (Nat.le_of_ble_eq_true rfl) ?_
    refine eb_Ct.mono w ?_
    rintro r h11 ⟨rfl, ko13, w⟩
    change eb_Sn _ _ _ 33 _ [] _ _
    refine eb_aload_n (pc := 33) (n := 0) (i := 0) rfl rfl rfl ?_
    refine eb_getR (pc := 34) rfl rfl (by decide) (by decide) rfl (ko_s_MO_1 ko13) ?_
    refine eb_bipush (pc := 37) (n := 32) (v := 32) rfl rfl ?_
    refine eb_iaload (pc := 39) rfl rfl (by unfold vp_in; decide) ?_
    refine eb_aload_n (pc := 40) (n := 0) (i := 0) rfl rfl rfl ?_
    refine eb_getR (pc := 41) rfl rfl (by decide) (by decide) rfl (ko_s_MO_18 ko13) ?_
    refine eb_iconst (pc := 44) (n := 1) (v := 1) rfl rfl ?_
    refine eb_iaload (pc := 45) rfl rfl (by unfold vp_in; decide) ?_
    refine eb_icmp_ne (pc := 46) (tgt := 53) rfl (by decide) (fun c14 => ?_) (fun c14 => ?_)
    · replace w := w.1 c14
      refine eb_aload_n (pc := 53) (n := 0) (i := 0) rfl rfl rfl ?_
      refine eb_getR (pc := 54) rfl rfl (by decide) (by decide) rfl (ko_s_MO_1 ko13) ?_
      refine eb_bipush (pc := 57) (n := 34) (v := 34) rfl rfl ?_
      refine eb_aload_n (pc := 59) (n := 0) (i := 0) rfl rfl rfl ?_
      refine eb_getR (pc := 60) rfl rfl (by decide) (by decide) rfl (ko_s_MO_1 ko13) ?_
      refine eb_bipush (pc := 63) (n := 31) (v := 31) rfl rfl ?_
      refine eb_iaload (pc := 65) rfl rfl (by unfold vp_in; decide) ?_
      refine eb_iadd (pc := 66) rfl ?_
      obtain ⟨c15, w⟩ := w
      refine eb_iaload (pc := 67) rfl rfl c15 ?_
      exact eb_ireturn (pc := 68) rfl rfl rfl w
    · replace w := w.2 c14
      refine eb_iconst (pc := 49) (n := 0) (v := 0) rfl rfl ?_
      refine eb_goto (pc := 50) (tgt := 68) rfl (by decide) ?_
      exact eb_ireturn (pc := 68) rfl rfl rfl w
  · replace w := w.2 c4
    refine eb_bipush (pc := 15) (n := -10) (v := (-10)) rfl rfl ?_
    refine eb_iload_n (pc := 17) (n := 2) (i := 2) rfl rfl rfl ?_
    refine eb_isub (pc := 18) rfl ?_
    exact eb_ireturn (pc := 19) rfl rfl rfl w
theorem T_X11_fly {d : Nat} {h : eb_H} {Q : Option Value → eb_H → Prop} (x1 : Int32)  (ko : eb_KO h) (w : eb_Ct d 203 [.ref s_MO, .int x1] (eb_sI h s_MO 0 0) (fun r h1 => ∃ y2, r = some (.int y2) ∧ eb_KO h1 ∧ ((y2 = 0 → eb_Ct d 206 [.ref s_MO] h1 (fun r h5 => r = none ∧ eb_KO h5 ∧ eb_Ct d 209 [.ref s_MO, .int x1] h5 (fun r h8 => r = none ∧ eb_KO h8 ∧ eb_Ct d 208 [.ref s_MO] h8 (fun r h11 => r = none ∧ eb_KO h11 ∧ ((¬ (eb_I h11 s_m_all (32 : Int32).toNatClampNeg) = (eb_I h11 s_m_was (1 : Int32).toNatClampNeg) → (vp_in ((34 : Int32) + (eb_I h11 s_m_all (31 : Int32).toNatClampNeg)) 3492) ∧ Q (some (.int (eb_I h11 s_m_all ((34 : Int32) + (eb_I h11 s_m_all (31 : Int32).toNatClampNeg)).toNatClampNeg))) h11) ∧ ((eb_I h11 s_m_all (32 : Int32).toNatClampNeg) = (eb_I h11 s_m_was (1 : Int32).toNatClampNeg) → Q (some (.int 0)) h11)))))) ∧ (¬ (y2 = 0) → Q (some (.int (((-10) : Int32) - y2))) h1)))) : eb_Ct (d + 1) 212 [.ref s_MO, .int x1] h Q :=
  eb_bodyQ (by decide) ok_X11_fly (Nat.le_of_ble_eq_true rfl) (b_X11_fly_0 (h0 := h) x1  ko w)
theorem b_X11_off_0 {d : Nat} {h0 h : eb_H} {Q : Option Value → eb_H → Prop} (x1 : Int32)  (ko : eb_KO h) (w : eb_Ct d 191 [.ref s_MO, .long x1.toInt64] (eb_sI h s_MO 0 0) (fun r h1 => ∃ y2, r = some (.int y2) ∧ eb_KO h1 ∧ ((¬ y2 = 0 → eb_Ct d 206 [.ref s_MO] h1 (fun r h5 => r = none ∧ eb_KO h5 ∧ eb_Ct d 210 [.ref s_MO, .int x1] h5 (fun r h8 => r = none ∧ eb_KO h8 ∧ eb_Ct d 208 [.ref s_MO] h8 (fun r h11 => r = none ∧ eb_KO h11 ∧ Q (some (.int (eb_I h11 s_m_was (0 : Int32).toNatClampNeg))) h11)))) ∧ (y2 = 0 → Q (some (.int (-11))) h1)))) : eb_Sn (d + 1) m_X11_off h0 0 [(0, .ref s_MO), (1, .int x1)] [] h Q := by
  refine eb_aload_n (pc := 0) (n := 0) (i := 0) rfl rfl rfl ?_
  refine eb_iconst (pc := 1) (n := 0) (v := 0) rfl rfl ?_
  refine eb_putI (pc := 2) rfl rfl (by decide) (by decide) rfl rfl ⟨rfl, rfl⟩ ?_
  refine eb_aload_n (pc := 5) (n := 0) (i := 0) rfl rfl rfl ?_
  refine eb_iload_n (pc := 6) (n := 1) (i := 1) rfl rfl rfl ?_
  refine eb_i2l (pc := 7) rfl ?_
  refine eb_ctV (pc := 8) (As := [.long x1.toInt64]) (rest := []) rfl (by decide) rfl rfl (by decide) rfl (Nat.le_of_ble_eq_true rfl) ?_
  refine eb_Ct.mono w ?_
  rintro r h1 ⟨y2, rfl, ko3, w⟩
  change eb_Sn _ _ _ 11 _ [.int y2] _ _
  refine eb_if_ne (pc := 11) (tgt := 17) rfl (by decide) (fun c4 => ?_) (fun c4 => ?_)
  · replace w := w.1 c4
    refine eb_aload_n (pc := 17) (n := 0) (i := 0) rfl rfl rfl ?_
    refine eb_ctV (pc := 18) (As := []) (rest := []) rfl (by decide) rfl rfl (by decide) rfl (Nat.le_of_ble_eq_true rfl) ?_
    refine eb_Ct.mono w ?_
    rintro r h5 ⟨rfl, ko7, w⟩
    change eb_Sn _ _ _ 21 _ [] _ _
    refine eb_aload_n (pc := 21) (n := 0) (i := 0) rfl rfl rfl ?_
    refine eb_iload_n (pc := 22) (n := 1) (i := 1) rfl rfl rfl ?_
    refine eb_ctV (pc := 23) (As := [.int x1]) (rest := []) rfl (by decide) rfl rfl (by decide) rfl (Nat.le_of_ble_eq_true rfl) ?_
    refine eb_Ct.mono w ?_
    rintro r h8 ⟨rfl, ko10, w⟩
    change eb_Sn _ _ _ 26 _ [] _ _
    refine eb_aload_n (pc := 26) (n := 0) (i := 0) rfl rfl rfl ?_
    refine eb_ctV (pc := 27) (As := []) (rest := []) rfl (by decide) rfl rfl (by decide) rfl (Nat.le_of_ble_eq_true rfl) ?_
    refine eb_Ct.mono w ?_
    rintro r h11 ⟨rfl, ko13, w⟩
    change eb_Sn _ _ _ 30 _ [] _ _
    refine eb_aload_n (pc := 30) (n := 0) (i := 0) rfl rfl rfl ?_
    refine eb_getR (pc := 31) rfl rfl (by decide) (by decide) rfl (ko_s_MO_18 ko13) ?_
    refine eb_iconst (pc := 34) (n := 0) (v := 0) rfl rfl ?_
    refine eb_iaload (pc := 35) rfl rfl (by unfold vp_in; decide) ?_
    exact eb_ireturn (pc := 36) rfl rfl rfl w
  · replace w := w.2 c4
    refine eb_bipush (pc := 14) (n := -11) (v := (-11)) rfl rfl ?_
    exact eb_ireturn (pc := 16) rfl rfl rfl w
theorem T_X11_off {d : Nat} {h : eb_H} {Q : Option Value → eb_H → Prop} (x1 : Int32)  (ko : eb_KO h) (w : eb_Ct d 191 [.ref s_MO, .long x1.toInt64] (eb_sI h s_MO 0 0) (fun r h1 => ∃ y2, r = some (.int y2) ∧ eb_KO h1 ∧ ((¬ y2 = 0 → eb_Ct d 206 [.ref s_MO] h1 (fun r h5 => r = none ∧ eb_KO h5 ∧ eb_Ct d 210 [.ref s_MO, .int x1] h5 (fun r h8 => r = none ∧ eb_KO h8 ∧ eb_Ct d 208 [.ref s_MO] h8 (fun r h11 => r = none ∧ eb_KO h11 ∧ Q (some (.int (eb_I h11 s_m_was (0 : Int32).toNatClampNeg))) h11)))) ∧ (y2 = 0 → Q (some (.int (-11))) h1)))) : eb_Ct (d + 1) 213 [.ref s_MO, .int x1] h Q :=
  eb_bodyQ (by decide) ok_X11_off (Nat.le_of_ble_eq_true rfl) (b_X11_off_0 (h0 := h) x1  ko w)
theorem b_X11_put_0 {d : Nat} {h0 h : eb_H} {Q : Option Value → eb_H → Prop} (x1 : Int32) (x2 : Int32)  (ko : eb_KO h) (w : eb_Ct d 191 [.ref s_MO, .long x1.toInt64] (eb_sI h s_MO 0 0) (fun r h1 => ∃ y2, r = some (.int y2) ∧ eb_KO h1 ∧ ((y2 = 0 → Q (some (.int (-11))) h1) ∧ (¬ (y2 = 0) → eb_Ct d 211 [.long x2.toInt64] h1 (fun r h5 => ∃ y6, r = some (.int y6) ∧ eb_KO h5 ∧ ((¬ y6 = 0 → eb_Ct d 206 [.ref s_MO] h5 (fun r h9 => r = none ∧ eb_KO h9 ∧ (vp_in ((34 : Int32) + x1) 3492) ∧ eb_Ct d 208 [.ref s_MO] (eb_sI h9 s_m_all ((34 : Int32) + x1).toNatClampNeg x2) (fun r h13 => r = none ∧ eb_KO h13 ∧ (vp_in ((3 : Int32) + x1) 21) ∧ Q (some (.int (eb_I h13 s_m_was ((3 : Int32) + x1).toNatClampNeg))) h13))) ∧ (y6 = 0 → Q (some (.int (-11))) h5))))))) : eb_Sn (d + 1) m_X11_put h0 0 [(0, .ref s_MO), (1, .int x1), (2, .int x2)] [] h Q := by
  refine eb_aload_n (pc := 0) (n := 0) (i := 0) rfl rfl rfl ?_
  refine eb_iconst (pc := 1) (n := 0) (v := 0) rfl rfl ?_
  refine eb_putI (pc := 2) rfl rfl (by decide) (by decide) rfl rfl ⟨rfl, rfl⟩ ?_
  refine eb_aload_n (pc := 5) (n := 0) (i := 0) rfl rfl rfl ?_
  refine eb_iload_n (pc := 6) (n := 1) (i := 1) rfl rfl rfl ?_
  refine eb_i2l (pc := 7) rfl ?_
  refine eb_ctV (pc := 8) (As := [.long x1.toInt64]) (rest := []) rfl (by decide) rfl rfl (by decide) rfl (Nat.le_of_ble_eq_true rfl) ?_
  refine eb_Ct.mono w ?_
  rintro r h1 ⟨y2, rfl, ko3, w⟩
  change eb_Sn _ _ _ 11 _ [.int y2] _ _
  refine eb_if_eq (pc := 11) (tgt := 22) rfl (by decide) (fun c4 => ?_) (fun c4 => ?_)
  · replace w := w.1 c4
    refine eb_bipush (pc := 22) (n := -11) (v := (-11)) rfl rfl ?_
    exact eb_ireturn (pc := 24) rfl rfl rfl w
  · replace w := w.2 c4
    refine eb_iload_n (pc := 14) (n := 2) (i := 2) rfl rfl rfl ?_
    refine eb_i2l (pc := 15) rfl ?_
    refine eb_ctS (pc := 16) (As := [.long x2.toInt64]) (rest := []) rfl (by decide) (by decide) rfl rfl (Nat.le_of_ble_eq_true rfl) ?_
    refine eb_Ct.mono w ?_
    rintro r h5 ⟨y6, rfl, ko7, w⟩
    change eb_Sn _ _ _ 19 _ [.int y6] _ _
    refine eb_if_ne (pc := 19) (tgt := 25) rfl (by decide) (fun c8 => ?_) (fun c8 => ?_)
    · replace w := w.1 c8
      refine eb_aload_n (pc := 25) (n := 0) (i := 0) rfl rfl rfl ?_
      refine eb_ctV (pc := 26) (As := []) (rest := []) rfl (by decide) rfl rfl (by decide) rfl (Nat.le_of_ble_eq_true rfl) ?_
      refine eb_Ct.mono w ?_
      rintro r h9 ⟨rfl, ko11, w⟩
      change eb_Sn _ _ _ 29 _ [] _ _
      refine eb_aload_n (pc := 29) (n := 0) (i := 0) rfl rfl rfl ?_
      refine eb_getR (pc := 30) rfl rfl (by decide) (by decide) rfl (ko_s_MO_1 ko11) ?_
      refine eb_bipush (pc := 33) (n := 34) (v := 34) rfl rfl ?_
      refine eb_iload_n (pc := 35) (n := 1) (i := 1) rfl rfl rfl ?_
      refine eb_iadd (pc := 36) rfl ?_
      refine eb_iload_n (pc := 37) (n := 2) (i := 2) rfl rfl rfl ?_
      obtain ⟨c12, w⟩ := w
      refine eb_iastore (pc := 38) rfl rfl c12 ?_
      refine eb_aload_n (pc := 39) (n := 0) (i := 0) rfl rfl rfl ?_
      refine eb_ctV (pc := 40) (As := []) (rest := []) rfl (by decide) rfl rfl (by decide) rfl (Nat.le_of_ble_eq_true rfl) ?_
      refine eb_Ct.mono w ?_
      rintro r h13 ⟨rfl, ko15, w⟩
      change eb_Sn _ _ _ 43 _ [] _ _
      refine eb_aload_n (pc := 43) (n := 0) (i := 0) rfl rfl rfl ?_
      refine eb_getR (pc := 44) rfl rfl (by decide) (by decide) rfl (ko_s_MO_18 ko15) ?_
      refine eb_iconst (pc := 47) (n := 3) (v := 3) rfl rfl ?_
      refine eb_iload_n (pc := 48) (n := 1) (i := 1) rfl rfl rfl ?_
      refine eb_iadd (pc := 49) rfl ?_
      obtain ⟨c16, w⟩ := w
      refine eb_iaload (pc := 50) rfl rfl c16 ?_
      exact eb_ireturn (pc := 51) rfl rfl rfl w
    · replace w := w.2 c8
      refine eb_bipush (pc := 22) (n := -11) (v := (-11)) rfl rfl ?_
      exact eb_ireturn (pc := 24) rfl rfl rfl w
theorem T_X11_put {d : Nat} {h : eb_H} {Q : Option Value → eb_H → Prop} (x1 : Int32) (x2 : Int32)  (ko : eb_KO h) (w : eb_Ct d 191 [.ref s_MO, .long x1.toInt64] (eb_sI h s_MO 0 0) (fun r h1 => ∃ y2, r = some (.int y2) ∧ eb_KO h1 ∧ ((y2 = 0 → Q (some (.int (-11))) h1) ∧ (¬ (y2 = 0) → eb_Ct d 211 [.long x2.toInt64] h1 (fun r h5 => ∃ y6, r = some (.int y6) ∧ eb_KO h5 ∧ ((¬ y6 = 0 → eb_Ct d 206 [.ref s_MO] h5 (fun r h9 => r = none ∧ eb_KO h9 ∧ (vp_in ((34 : Int32) + x1) 3492) ∧ eb_Ct d 208 [.ref s_MO] (eb_sI h9 s_m_all ((34 : Int32) + x1).toNatClampNeg x2) (fun r h13 => r = none ∧ eb_KO h13 ∧ (vp_in ((3 : Int32) + x1) 21) ∧ Q (some (.int (eb_I h13 s_m_was ((3 : Int32) + x1).toNatClampNeg))) h13))) ∧ (y6 = 0 → Q (some (.int (-11))) h5))))))) : eb_Ct (d + 1) 214 [.ref s_MO, .int x1, .int x2] h Q :=
  eb_bodyQ (by decide) ok_X11_put (Nat.le_of_ble_eq_true rfl) (b_X11_put_0 (h0 := h) x1 x2  ko w)
theorem b_X11_drift_0 {d : Nat} {h0 h : eb_H} {Q : Option Value → eb_H → Prop} (x1 : Int32)  (ko : eb_KO h) (w : eb_Ct d 191 [.ref s_MO, .long x1.toInt64] (eb_sI h s_MO 0 0) (fun r h1 => ∃ y2, r = some (.int y2) ∧ eb_KO h1 ∧ ((¬ y2 = 0 → eb_Ct d 206 [.ref s_MO] h1 (fun r h5 => r = none ∧ eb_KO h5 ∧ eb_Ct d 208 [.ref s_MO] (eb_sI h5 s_m_all (50 : Int32).toNatClampNeg ((eb_I h5 s_m_all (50 : Int32).toNatClampNeg) ^^^ ((1 : Int32) <<< (x1 &&& 31)))) (fun r h8 => r = none ∧ eb_KO h8 ∧ Q (some (.int (((eb_I h8 s_m_all (50 : Int32).toNatClampNeg) >>> (x1 &&& 31)) &&& 1))) h8))) ∧ (y2 = 0 → Q (some (.int (-11))) h1)))) : eb_Sn (d + 1) m_X11_drift h0 0 [(0, .ref s_MO), (1, .int x1)] [] h Q := by
  refine eb_aload_n (pc := 0) (n := 0) (i := 0) rfl rfl rfl ?_
  refine eb_iconst (pc := 1) (n := 0) (v := 0) rfl rfl ?_
  refine eb_putI (pc := 2) rfl rfl (by decide) (by decide) rfl rfl ⟨rfl, rfl⟩ ?_
  refine eb_aload_n (pc := 5) (n := 0) (i := 0) rfl rfl rfl ?_
  refine eb_iload_n (pc := 6) (n := 1) (i := 1) rfl rfl rfl ?_
  refine eb_i2l (pc := 7) rfl ?_
  refine eb_ctV (pc := 8) (As := [.long x1.toInt64]) (rest := []) rfl (by decide) rfl rfl (by decide) rfl (Nat.le_of_ble_eq_true rfl) ?_
  refine eb_Ct.mono w ?_
  rintro r h1 ⟨y2, rfl, ko3, w⟩
  change eb_Sn _ _ _ 11 _ [.int y2] _ _
  refine eb_if_ne (pc := 11) (tgt := 17) rfl (by decide) (fun c4 => ?_) (fun c4 => ?_)
  · replace w := w.1 c4
    refine eb_aload_n (pc := 17) (n := 0) (i := 0) rfl rfl rfl ?_
    refine eb_ctV (pc := 18) (As := []) (rest := []) rfl (by decide) rfl rfl (by decide) rfl (Nat.le_of_ble_eq_true rfl) ?_
    refine eb_Ct.mono w ?_
    rintro r h5 ⟨rfl, ko7, w⟩
    change eb_Sn _ _ _ 21 _ [] _ _
    refine eb_aload_n (pc := 21) (n := 0) (i := 0) rfl rfl rfl ?_
    refine eb_getR (pc := 22) rfl rfl (by decide) (by decide) rfl (ko_s_MO_1 ko7) ?_
    refine eb_bipush (pc := 25) (n := 50) (v := 50) rfl rfl ?_
    refine eb_dup2 (pc := 27) rfl ?_
    refine eb_iaload (pc := 28) rfl rfl (by unfold vp_in; decide) ?_
    refine eb_iconst (pc := 29) (n := 1) (v := 1) rfl rfl ?_
    refine eb_iload_n (pc := 30) (n := 1) (i := 1) rfl rfl rfl ?_
    refine eb_ishl (pc := 31) rfl ?_
    refine eb_ixor (pc := 32) rfl ?_
    refine eb_iastore (pc := 33) rfl rfl (by unfold vp_in; decide) ?_
    refine eb_aload_n (pc := 34) (n := 0) (i := 0) rfl rfl rfl ?_
    refine eb_ctV (pc := 35) (As := []) (rest := []) rfl (by decide) rfl rfl (by decide) rfl (Nat.le_of_ble_eq_true rfl) ?_
    refine eb_Ct.mono w ?_
    rintro r h8 ⟨rfl, ko10, w⟩
    change eb_Sn _ _ _ 38 _ [] _ _
    refine eb_aload_n (pc := 38) (n := 0) (i := 0) rfl rfl rfl ?_
    refine eb_getR (pc := 39) rfl rfl (by decide) (by decide) rfl (ko_s_MO_1 ko10) ?_
    refine eb_bipush (pc := 42) (n := 50) (v := 50) rfl rfl ?_
    refine eb_iaload (pc := 44) rfl rfl (by unfold vp_in; decide) ?_
    refine eb_iload_n (pc := 45) (n := 1) (i := 1) rfl rfl rfl ?_
    refine eb_ishr (pc := 46) rfl ?_
    refine eb_iconst (pc := 47) (n := 1) (v := 1) rfl rfl ?_
    refine eb_iand (pc := 48) rfl ?_
    exact eb_ireturn (pc := 49) rfl rfl rfl w
  · replace w := w.2 c4
    refine eb_bipush (pc := 14) (n := -11) (v := (-11)) rfl rfl ?_
    exact eb_ireturn (pc := 16) rfl rfl rfl w
theorem T_X11_drift {d : Nat} {h : eb_H} {Q : Option Value → eb_H → Prop} (x1 : Int32)  (ko : eb_KO h) (w : eb_Ct d 191 [.ref s_MO, .long x1.toInt64] (eb_sI h s_MO 0 0) (fun r h1 => ∃ y2, r = some (.int y2) ∧ eb_KO h1 ∧ ((¬ y2 = 0 → eb_Ct d 206 [.ref s_MO] h1 (fun r h5 => r = none ∧ eb_KO h5 ∧ eb_Ct d 208 [.ref s_MO] (eb_sI h5 s_m_all (50 : Int32).toNatClampNeg ((eb_I h5 s_m_all (50 : Int32).toNatClampNeg) ^^^ ((1 : Int32) <<< (x1 &&& 31)))) (fun r h8 => r = none ∧ eb_KO h8 ∧ Q (some (.int (((eb_I h8 s_m_all (50 : Int32).toNatClampNeg) >>> (x1 &&& 31)) &&& 1))) h8))) ∧ (y2 = 0 → Q (some (.int (-11))) h1)))) : eb_Ct (d + 1) 215 [.ref s_MO, .int x1] h Q :=
  eb_bodyQ (by decide) ok_X11_drift (Nat.le_of_ble_eq_true rfl) (b_X11_drift_0 (h0 := h) x1  ko w)
theorem b_X11_wind_0 {d : Nat} {h0 h : eb_H} {Q : Option Value → eb_H → Prop} (x1 : Int32)  (ko : eb_KO h) (w : eb_Ct d 156 [.long x1.toInt64, .long 0, .long 9] (eb_sI h s_MO 0 0) (fun r h1 => ∃ y2, r = some (.int y2) ∧ eb_KO h1 ∧ ((¬ y2 = 0 → eb_Ct d 206 [.ref s_MO] h1 (fun r h5 => r = none ∧ eb_KO h5 ∧ eb_Ct d 208 [.ref s_MO] (eb_sI h5 s_m_all (51 : Int32).toNatClampNeg x1) (fun r h8 => r = none ∧ eb_KO h8 ∧ Q (some (.int (eb_I h8 s_m_was (20 : Int32).toNatClampNeg))) h8))) ∧ (y2 = 0 → Q (some (.int (-11))) h1)))) : eb_Sn (d + 1) m_X11_wind h0 0 [(0, .ref s_MO), (1, .int x1)] [] h Q := by
  refine eb_aload_n (pc := 0) (n := 0) (i := 0) rfl rfl rfl ?_
  refine eb_iconst (pc := 1) (n := 0) (v := 0) rfl rfl ?_
  refine eb_putI (pc := 2) rfl rfl (by decide) (by decide) rfl rfl ⟨rfl, rfl⟩ ?_
  refine eb_iload_n (pc := 5) (n := 1) (i := 1) rfl rfl rfl ?_
  refine eb_i2l (pc := 6) rfl ?_
  refine eb_lconst (pc := 7) (n := 0) (v := 0) rfl rfl ?_
  refine eb_ldc2 (pc := 8) (a := 9) (v := 9) rfl (by decide) ?_
  refine eb_ctS (pc := 11) (As := [.long x1.toInt64, .long 0, .long 9]) (rest := []) rfl (by decide) (by decide) rfl rfl (Nat.le_of_ble_eq_true rfl) ?_
  refine eb_Ct.mono w ?_
  rintro r h1 ⟨y2, rfl, ko3, w⟩
  change eb_Sn _ _ _ 14 _ [.int y2] _ _
  refine eb_if_ne (pc := 14) (tgt := 20) rfl (by decide) (fun c4 => ?_) (fun c4 => ?_)
  · replace w := w.1 c4
    refine eb_aload_n (pc := 20) (n := 0) (i := 0) rfl rfl rfl ?_
    refine eb_ctV (pc := 21) (As := []) (rest := []) rfl (by decide) rfl rfl (by decide) rfl (Nat.le_of_ble_eq_true rfl) ?_
    refine eb_Ct.mono w ?_
    rintro r h5 ⟨rfl, ko7, w⟩
    change eb_Sn _ _ _ 24 _ [] _ _
    refine eb_aload_n (pc := 24) (n := 0) (i := 0) rfl rfl rfl ?_
    refine eb_getR (pc := 25) rfl rfl (by decide) (by decide) rfl (ko_s_MO_1 ko7) ?_
    refine eb_bipush (pc := 28) (n := 51) (v := 51) rfl rfl ?_
    refine eb_iload_n (pc := 30) (n := 1) (i := 1) rfl rfl rfl ?_
    refine eb_iastore (pc := 31) rfl rfl (by unfold vp_in; decide) ?_
    refine eb_aload_n (pc := 32) (n := 0) (i := 0) rfl rfl rfl ?_
    refine eb_ctV (pc := 33) (As := []) (rest := []) rfl (by decide) rfl rfl (by decide) rfl (Nat.le_of_ble_eq_true rfl) ?_
    refine eb_Ct.mono w ?_
    rintro r h8 ⟨rfl, ko10, w⟩
    change eb_Sn _ _ _ 36 _ [] _ _
    refine eb_aload_n (pc := 36) (n := 0) (i := 0) rfl rfl rfl ?_
    refine eb_getR (pc := 37) rfl rfl (by decide) (by decide) rfl (ko_s_MO_18 ko10) ?_
    refine eb_bipush (pc := 40) (n := 20) (v := 20) rfl rfl ?_
    refine eb_iaload (pc := 42) rfl rfl (by unfold vp_in; decide) ?_
    exact eb_ireturn (pc := 43) rfl rfl rfl w
  · replace w := w.2 c4
    refine eb_bipush (pc := 17) (n := -11) (v := (-11)) rfl rfl ?_
    exact eb_ireturn (pc := 19) rfl rfl rfl w
theorem T_X11_wind {d : Nat} {h : eb_H} {Q : Option Value → eb_H → Prop} (x1 : Int32)  (ko : eb_KO h) (w : eb_Ct d 156 [.long x1.toInt64, .long 0, .long 9] (eb_sI h s_MO 0 0) (fun r h1 => ∃ y2, r = some (.int y2) ∧ eb_KO h1 ∧ ((¬ y2 = 0 → eb_Ct d 206 [.ref s_MO] h1 (fun r h5 => r = none ∧ eb_KO h5 ∧ eb_Ct d 208 [.ref s_MO] (eb_sI h5 s_m_all (51 : Int32).toNatClampNeg x1) (fun r h8 => r = none ∧ eb_KO h8 ∧ Q (some (.int (eb_I h8 s_m_was (20 : Int32).toNatClampNeg))) h8))) ∧ (y2 = 0 → Q (some (.int (-11))) h1)))) : eb_Ct (d + 1) 216 [.ref s_MO, .int x1] h Q :=
  eb_bodyQ (by decide) ok_X11_wind (Nat.le_of_ble_eq_true rfl) (b_X11_wind_0 (h0 := h) x1  ko w)
theorem b_X11_undo_0 {d : Nat} {h0 h : eb_H} {Q : Option Value → eb_H → Prop} (x1 : Int32)  (ko : eb_KO h) (w : eb_Ct d 156 [.long x1.toInt64, .long 1, .long 10] (eb_sI h s_MO 0 0) (fun r h1 => ∃ y2, r = some (.int y2) ∧ eb_KO h1 ∧ ((y2 = 0 → Q (some (.int (-3))) h1) ∧ (¬ (y2 = 0) → ((x1 ≤ (eb_I h1 s_m_all (52 : Int32).toNatClampNeg) → eb_Sn (d + 1) m_X11_undo h0 44 [(0, .ref s_MO), (2, .int 0)] [] (eb_sI h1 s_m_all (52 : Int32).toNatClampNeg ((eb_I h1 s_m_all (52 : Int32).toNatClampNeg) - x1)) Q) ∧ (¬ (x1 ≤ (eb_I h1 s_m_all (52 : Int32).toNatClampNeg)) → Q (some (.int (-3))) h1)))))) : eb_Sn (d + 1) m_X11_undo h0 0 [(0, .ref s_MO), (1, .int x1)] [] h Q := by
  refine eb_aload_n (pc := 0) (n := 0) (i := 0) rfl rfl rfl ?_
  refine eb_iconst (pc := 1) (n := 0) (v := 0) rfl rfl ?_
  refine eb_putI (pc := 2) rfl rfl (by decide) (by decide) rfl rfl ⟨rfl, rfl⟩ ?_
  refine eb_iload_n (pc := 5) (n := 1) (i := 1) rfl rfl rfl ?_
  refine eb_i2l (pc := 6) rfl ?_
  refine eb_lconst (pc := 7) (n := 1) (v := 1) rfl rfl ?_
  refine eb_ldc2 (pc := 8) (a := 10) (v := 10) rfl (by decide) ?_
  refine eb_ctS (pc := 11) (As := [.long x1.toInt64, .long 1, .long 10]) (rest := []) rfl (by decide) (by decide) rfl rfl (Nat.le_of_ble_eq_true rfl) ?_
  refine eb_Ct.mono w ?_
  rintro r h1 ⟨y2, rfl, ko3, w⟩
  change eb_Sn _ _ _ 14 _ [.int y2] _ _
  refine eb_if_eq (pc := 14) (tgt := 28) rfl (by decide) (fun c4 => ?_) (fun c4 => ?_)
  · replace w := w.1 c4
    refine eb_bipush (pc := 28) (n := -3) (v := (-3)) rfl rfl ?_
    exact eb_ireturn (pc := 30) rfl rfl rfl w
  · replace w := w.2 c4
    refine eb_iload_n (pc := 17) (n := 1) (i := 1) rfl rfl rfl ?_
    refine eb_aload_n (pc := 18) (n := 0) (i := 0) rfl rfl rfl ?_
    refine eb_getR (pc := 19) rfl rfl (by decide) (by decide) rfl (ko_s_MO_1 ko3) ?_
    refine eb_bipush (pc := 22) (n := 52) (v := 52) rfl rfl ?_
    refine eb_iaload (pc := 24) rfl rfl (by unfold vp_in; decide) ?_
    refine eb_icmp_le (pc := 25) (tgt := 31) rfl (by decide) (fun c5 => ?_) (fun c5 => ?_)
    · replace w := w.1 c5
      refine eb_aload_n (pc := 31) (n := 0) (i := 0) rfl rfl rfl ?_
      refine eb_getR (pc := 32) rfl rfl (by decide) (by decide) rfl (ko_s_MO_1 ko3) ?_
      refine eb_bipush (pc := 35) (n := 52) (v := 52) rfl rfl ?_
      refine eb_dup2 (pc := 37) rfl ?_
      refine eb_iaload (pc := 38) rfl rfl (by unfold vp_in; decide) ?_
      refine eb_iload_n (pc := 39) (n := 1) (i := 1) rfl rfl rfl ?_
      refine eb_isub (pc := 40) rfl ?_
      refine eb_iastore (pc := 41) rfl rfl (by unfold vp_in; decide) ?_
      refine eb_iconst (pc := 42) (n := 0) (v := 0) rfl rfl ?_
      refine eb_istore_n (pc := 43) (n := 2) (i := 2) (ls2 := [(2, .int 0), (0, .ref s_MO), (1, .int x1)]) rfl (Nat.le_of_ble_eq_true rfl) rfl rfl ?_
      exact eb_pick [1, 0] rfl w
    · replace w := w.2 c5
      refine eb_bipush (pc := 28) (n := -3) (v := (-3)) rfl rfl ?_
      exact eb_ireturn (pc := 30) rfl rfl rfl w
theorem b_X11_undo_44 {d : Nat} {h0 h : eb_H} {Q : Option Value → eb_H → Prop} (x2 : Int32)  (ko : eb_KO h) (w : (((21 : Int32) ≤ x2 → Q (some (.int (eb_I h s_m_all (52 : Int32).toNatClampNeg))) h) ∧ (¬ ((21 : Int32) ≤ x2) → (vp_in (((53 : Int32) + ((21 : Int32) * (eb_I h s_m_all (52 : Int32).toNatClampNeg))) + x2) 3492) ∧ (vp_in ((31 : Int32) + x2) 3492) ∧ eb_Sn (d + 1) m_X11_undo h0 44 [(0, .ref s_MO), (2, .int (x2 + 1))] [] (eb_sI h s_m_all ((31 : Int32) + x2).toNatClampNeg (eb_I h s_m_all (((53 : Int32) + ((21 : Int32) * (eb_I h s_m_all (52 : Int32).toNatClampNeg))) + x2).toNatClampNeg)) Q))) : eb_Sn (d + 1) m_X11_undo h0 44 [(0, .ref s_MO), (2, .int x2)] [] h Q := by
  refine eb_iload_n (pc := 44) (n := 2) (i := 2) rfl rfl rfl ?_
  refine eb_bipush (pc := 45) (n := 21) (v := 21) rfl rfl ?_
  refine eb_icmp_ge (pc := 47) (tgt := 85) rfl (by decide) (fun c1 => ?_) (fun c1 => ?_)
  · replace w := w.1 c1
    refine eb_aload_n (pc := 85) (n := 0) (i := 0) rfl rfl rfl ?_
    refine eb_getR (pc := 86) rfl rfl (by decide) (by decide) rfl (ko_s_MO_1 ko) ?_
    refine eb_bipush (pc := 89) (n := 52) (v := 52) rfl rfl ?_
    refine eb_iaload (pc := 91) rfl rfl (by unfold vp_in; decide) ?_
    exact eb_ireturn (pc := 92) rfl rfl rfl w
  · replace w := w.2 c1
    refine eb_aload_n (pc := 50) (n := 0) (i := 0) rfl rfl rfl ?_
    refine eb_getR (pc := 51) rfl rfl (by decide) (by decide) rfl (ko_s_MO_1 ko) ?_
    refine eb_bipush (pc := 54) (n := 31) (v := 31) rfl rfl ?_
    refine eb_iload_n (pc := 56) (n := 2) (i := 2) rfl rfl rfl ?_
    refine eb_iadd (pc := 57) rfl ?_
    refine eb_aload_n (pc := 58) (n := 0) (i := 0) rfl rfl rfl ?_
    refine eb_getR (pc := 59) rfl rfl (by decide) (by decide) rfl (ko_s_MO_1 ko) ?_
    refine eb_bipush (pc := 62) (n := 53) (v := 53) rfl rfl ?_
    refine eb_bipush (pc := 64) (n := 21) (v := 21) rfl rfl ?_
    refine eb_aload_n (pc := 66) (n := 0) (i := 0) rfl rfl rfl ?_
    refine eb_getR (pc := 67) rfl rfl (by decide) (by decide) rfl (ko_s_MO_1 ko) ?_
    refine eb_bipush (pc := 70) (n := 52) (v := 52) rfl rfl ?_
    refine eb_iaload (pc := 72) rfl rfl (by unfold vp_in; decide) ?_
    refine eb_imul (pc := 73) rfl ?_
    refine eb_iadd (pc := 74) rfl ?_
    refine eb_iload_n (pc := 75) (n := 2) (i := 2) rfl rfl rfl ?_
    refine eb_iadd (pc := 76) rfl ?_
    obtain ⟨c2, w⟩ := w
    refine eb_iaload (pc := 77) rfl rfl c2 ?_
    obtain ⟨c3, w⟩ := w
    refine eb_iastore (pc := 78) rfl rfl c3 ?_
    refine eb_iinc (pc := 79) (i := 2) (n := 1) (v := x2 + 1) (ls2 := [(2, .int (x2 + 1)), (0, .ref s_MO)]) (Nat.le_of_ble_eq_true rfl) rfl rfl rfl rfl ?_
    refine eb_goto (pc := 82) (tgt := 44) rfl (by decide) ?_
    exact eb_pick [1, 0] rfl w
theorem T_X11_undo {d : Nat} {h : eb_H} {Q : Option Value → eb_H → Prop} (x1 : Int32)  (ko : eb_KO h) (w : eb_Ct d 156 [.long x1.toInt64, .long 1, .long 10] (eb_sI h s_MO 0 0) (fun r h1 => ∃ y2, r = some (.int y2) ∧ eb_KO h1 ∧ ((y2 = 0 → Q (some (.int (-3))) h1) ∧ (¬ (y2 = 0) → ((x1 ≤ (eb_I h1 s_m_all (52 : Int32).toNatClampNeg) → eb_Sn (d + 1) m_X11_undo h 44 [(0, .ref s_MO), (2, .int 0)] [] (eb_sI h1 s_m_all (52 : Int32).toNatClampNeg ((eb_I h1 s_m_all (52 : Int32).toNatClampNeg) - x1)) Q) ∧ (¬ (x1 ≤ (eb_I h1 s_m_all (52 : Int32).toNatClampNeg)) → Q (some (.int (-3))) h1)))))) : eb_Ct (d + 1) 217 [.ref s_MO, .int x1] h Q :=
  eb_bodyQ (by decide) ok_X11_undo (Nat.le_of_ble_eq_true rfl) (b_X11_undo_0 (h0 := h) x1  ko w)
theorem b_X11_whyNot_0 {d : Nat} {h0 h : eb_H} {Q : Option Value → eb_H → Prop} (x1 : Int64)  (ko : eb_KO h) (w : eb_Ct d 156 [.long x1, .long 0, .long 3] h (fun r h1 => ∃ y2, r = some (.int y2) ∧ eb_KO h1 ∧ ((y2 = 0 → eb_Ct d 156 [.long x1, .long 100, .long 299] h1 (fun r h5 => ∃ y6, r = some (.int y6) ∧ eb_KO h5 ∧ ((y6 = 0 → eb_Ct d 156 [.long x1, .long 300, .long 309] h5 (fun r h9 => ∃ y10, r = some (.int y10) ∧ eb_KO h9 ∧ ((y10 = 0 → eb_Ct d 156 [.long x1, .long 1000, .long 1999] h9 (fun r h13 => ∃ y14, r = some (.int y14) ∧ eb_KO h13 ∧ ((y14 = 0 → Q (some (.int 1)) h13) ∧ (¬ (y14 = 0) → eb_Ct d 191 [.ref s_MO, .long ((x1 - 1000) / 10)] h13 (fun r h17 => ∃ y18, r = some (.int y18) ∧ eb_KO h17 ∧ ((y18 = 0 → Q (some (.int 1)) h17) ∧ (¬ (y18 = 0) → eb_Ct d 211 [.long (x1 - x1 / 10 * 10)] h17 (fun r h21 => ∃ y22, r = some (.int y22) ∧ eb_KO h21 ∧ Q (some (.int (if y22 = 0 then 1 else 0 : Int32))) h21)))))))) ∧ (¬ (y10 = 0) → Q (some (.int 0)) h9)))) ∧ (¬ (y6 = 0) → eb_Ct d 191 [.ref s_MO, .long ((x1 - 100) - (x1 - 100) / 100 * 100)] h5 (fun r h26 => ∃ y27, r = some (.int y27) ∧ eb_KO h26 ∧ Q (some (.int (if y27 = 0 then 1 else 0 : Int32))) h26))))) ∧ (¬ (y2 = 0) → eb_Ct d 203 [.ref s_MO, .int x1.toInt32] h1 (fun r h31 => ∃ y32, r = some (.int y32) ∧ eb_KO h31 ∧ Q (some (.int y32)) h31))))) : eb_Sn (d + 1) m_X11_whyNot h0 0 [(0, .ref s_MO), (1, .long x1)] [] h Q := by
  refine eb_lload_n (pc := 0) (n := 1) (i := 1) rfl rfl rfl ?_
  refine eb_lconst (pc := 1) (n := 0) (v := 0) rfl rfl ?_
  refine eb_ldc2 (pc := 2) (a := 3) (v := 3) rfl (by decide) ?_
  refine eb_ctS (pc := 5) (As := [.long x1, .long 0, .long 3]) (rest := []) rfl (by decide) (by decide) rfl rfl (Nat.le_of_ble_eq_true rfl) ?_
  refine eb_Ct.mono w ?_
  rintro r h1 ⟨y2, rfl, ko3, w⟩
  change eb_Sn _ _ _ 8 _ [.int y2] _ _
  refine eb_if_eq (pc := 8) (tgt := 18) rfl (by decide) (fun c4 => ?_) (fun c4 => ?_)
  · replace w := w.1 c4
    refine eb_lload_n (pc := 18) (n := 1) (i := 1) rfl rfl rfl ?_
    refine eb_ldc2 (pc := 19) (a := 100) (v := 100) rfl (by decide) ?_
    refine eb_ldc2 (pc := 22) (a := 299) (v := 299) rfl (by decide) ?_
    refine eb_ctS (pc := 25) (As := [.long x1, .long 100, .long 299]) (rest := []) rfl (by decide) (by decide) rfl rfl (Nat.le_of_ble_eq_true rfl) ?_
    refine eb_Ct.mono w ?_
    rintro r h5 ⟨y6, rfl, ko7, w⟩
    change eb_Sn _ _ _ 28 _ [.int y6] _ _
    refine eb_if_eq (pc := 28) (tgt := 53) rfl (by decide) (fun c8 => ?_) (fun c8 => ?_)
    · replace w := w.1 c8
      refine eb_lload_n (pc := 53) (n := 1) (i := 1) rfl rfl rfl ?_
      refine eb_ldc2 (pc := 54) (a := 300) (v := 300) rfl (by decide) ?_
      refine eb_ldc2 (pc := 57) (a := 309) (v := 309) rfl (by decide) ?_
      refine eb_ctS (pc := 60) (As := [.long x1, .long 300, .long 309]) (rest := []) rfl (by decide) (by decide) rfl rfl (Nat.le_of_ble_eq_true rfl) ?_
      refine eb_Ct.mono w ?_
      rintro r h9 ⟨y10, rfl, ko11, w⟩
      change eb_Sn _ _ _ 63 _ [.int y10] _ _
      refine eb_if_eq (pc := 63) (tgt := 68) rfl (by decide) (fun c12 => ?_) (fun c12 => ?_)
      · replace w := w.1 c12
        refine eb_lload_n (pc := 68) (n := 1) (i := 1) rfl rfl rfl ?_
        refine eb_ldc2 (pc := 69) (a := 1000) (v := 1000) rfl (by decide) ?_
        refine eb_ldc2 (pc := 72) (a := 1999) (v := 1999) rfl (by decide) ?_
        refine eb_ctS (pc := 75) (As := [.long x1, .long 1000, .long 1999]) (rest := []) rfl (by decide) (by decide) rfl rfl (Nat.le_of_ble_eq_true rfl) ?_
        refine eb_Ct.mono w ?_
        rintro r h13 ⟨y14, rfl, ko15, w⟩
        change eb_Sn _ _ _ 78 _ [.int y14] _ _
        refine eb_if_eq (pc := 78) (tgt := 112) rfl (by decide) (fun c16 => ?_) (fun c16 => ?_)
        · replace w := w.1 c16
          refine eb_iconst (pc := 112) (n := 1) (v := 1) rfl rfl ?_
          exact eb_ireturn (pc := 113) rfl rfl rfl w
        · replace w := w.2 c16
          refine eb_aload_n (pc := 81) (n := 0) (i := 0) rfl rfl rfl ?_
          refine eb_lload_n (pc := 82) (n := 1) (i := 1) rfl rfl rfl ?_
          refine eb_ldc2 (pc := 83) (a := 1000) (v := 1000) rfl (by decide) ?_
          refine eb_lsub (pc := 86) rfl ?_
          refine eb_ldc2 (pc := 87) (a := 10) (v := 10) rfl (by decide) ?_
          refine eb_ldiv (pc := 90) (by decide) rfl ?_
          refine eb_ctV (pc := 91) (As := [.long ((x1 - 1000) / 10)]) (rest := []) rfl (by decide) rfl rfl (by decide) rfl (Nat.le_of_ble_eq_true rfl) ?_
          refine eb_Ct.mono w ?_
          rintro r h17 ⟨y18, rfl, ko19, w⟩
          change eb_Sn _ _ _ 94 _ [.int y18] _ _
          refine eb_if_eq (pc := 94) (tgt := 112) rfl (by decide) (fun c20 => ?_) (fun c20 => ?_)
          · replace w := w.1 c20
            refine eb_iconst (pc := 112) (n := 1) (v := 1) rfl rfl ?_
            exact eb_ireturn (pc := 113) rfl rfl rfl w
          · replace w := w.2 c20
            refine eb_lload_n (pc := 97) (n := 1) (i := 1) rfl rfl rfl ?_
            refine eb_ldc2 (pc := 98) (a := 10) (v := 10) rfl (by decide) ?_
            refine eb_lrem (pc := 101) (by decide) rfl ?_
            refine eb_ctS (pc := 102) (As := [.long (x1 - x1 / 10 * 10)]) (rest := []) rfl (by decide) (by decide) rfl rfl (Nat.le_of_ble_eq_true rfl) ?_
            refine eb_Ct.mono w ?_
            rintro r h21 ⟨y22, rfl, ko23, w⟩
            change eb_Sn _ _ _ 105 _ [.int y22] _ _
            have jj25 : eb_Sn (d + 1) m_X11_whyNot h0 113 [(0, .ref s_MO), (1, .long x1)] [.int (if y22 = 0 then 1 else 0 : Int32)] h21 Q := by
              exact eb_ireturn (pc := 113) rfl rfl rfl w
            refine eb_if_eq (pc := 105) (tgt := 112) rfl (by decide) (fun c24 => ?_) (fun c24 => ?_)
            · refine eb_iconst (pc := 112) (n := 1) (v := 1) rfl rfl ?_
              simp only [if_pos c24] at jj25 ⊢
              exact jj25
            · refine eb_iconst (pc := 108) (n := 0) (v := 0) rfl rfl ?_
              refine eb_goto (pc := 109) (tgt := 113) rfl (by decide) ?_
              simp only [if_neg c24] at jj25 ⊢
              exact jj25
      · replace w := w.2 c12
        refine eb_iconst (pc := 66) (n := 0) (v := 0) rfl rfl ?_
        exact eb_ireturn (pc := 67) rfl rfl rfl w
    · replace w := w.2 c8
      refine eb_aload_n (pc := 31) (n := 0) (i := 0) rfl rfl rfl ?_
      refine eb_lload_n (pc := 32) (n := 1) (i := 1) rfl rfl rfl ?_
      refine eb_ldc2 (pc := 33) (a := 100) (v := 100) rfl (by decide) ?_
      refine eb_lsub (pc := 36) rfl ?_
      refine eb_ldc2 (pc := 37) (a := 100) (v := 100) rfl (by decide) ?_
      refine eb_lrem (pc := 40) (by decide) rfl ?_
      refine eb_ctV (pc := 41) (As := [.long ((x1 - 100) - (x1 - 100) / 100 * 100)]) (rest := []) rfl (by decide) rfl rfl (by decide) rfl (Nat.le_of_ble_eq_true rfl) ?_
      refine eb_Ct.mono w ?_
      rintro r h26 ⟨y27, rfl, ko28, w⟩
      change eb_Sn _ _ _ 44 _ [.int y27] _ _
      have jj30 : eb_Sn (d + 1) m_X11_whyNot h0 52 [(0, .ref s_MO), (1, .long x1)] [.int (if y27 = 0 then 1 else 0 : Int32)] h26 Q := by
        exact eb_ireturn (pc := 52) rfl rfl rfl w
      refine eb_if_eq (pc := 44) (tgt := 51) rfl (by decide) (fun c29 => ?_) (fun c29 => ?_)
      · refine eb_iconst (pc := 51) (n := 1) (v := 1) rfl rfl ?_
        simp only [if_pos c29] at jj30 ⊢
        exact jj30
      · refine eb_iconst (pc := 47) (n := 0) (v := 0) rfl rfl ?_
        refine eb_goto (pc := 48) (tgt := 52) rfl (by decide) ?_
        simp only [if_neg c29] at jj30 ⊢
        exact jj30
  · replace w := w.2 c4
    refine eb_aload_n (pc := 11) (n := 0) (i := 0) rfl rfl rfl ?_
    refine eb_lload_n (pc := 12) (n := 1) (i := 1) rfl rfl rfl ?_
    refine eb_l2i (pc := 13) rfl ?_
    refine eb_ctV (pc := 14) (As := [.int x1.toInt32]) (rest := []) rfl (by decide) rfl rfl (by decide) rfl (Nat.le_of_ble_eq_true rfl) ?_
    refine eb_Ct.mono w ?_
    rintro r h31 ⟨y32, rfl, ko33, w⟩
    change eb_Sn _ _ _ 17 _ [.int y32] _ _
    exact eb_ireturn (pc := 17) rfl rfl rfl w
theorem T_X11_whyNot {d : Nat} {h : eb_H} {Q : Option Value → eb_H → Prop} (x1 : Int64)  (ko : eb_KO h) (w : eb_Ct d 156 [.long x1, .long 0, .long 3] h (fun r h1 => ∃ y2, r = some (.int y2) ∧ eb_KO h1 ∧ ((y2 = 0 → eb_Ct d 156 [.long x1, .long 100, .long 299] h1 (fun r h5 => ∃ y6, r = some (.int y6) ∧ eb_KO h5 ∧ ((y6 = 0 → eb_Ct d 156 [.long x1, .long 300, .long 309] h5 (fun r h9 => ∃ y10, r = some (.int y10) ∧ eb_KO h9 ∧ ((y10 = 0 → eb_Ct d 156 [.long x1, .long 1000, .long 1999] h9 (fun r h13 => ∃ y14, r = some (.int y14) ∧ eb_KO h13 ∧ ((y14 = 0 → Q (some (.int 1)) h13) ∧ (¬ (y14 = 0) → eb_Ct d 191 [.ref s_MO, .long ((x1 - 1000) / 10)] h13 (fun r h17 => ∃ y18, r = some (.int y18) ∧ eb_KO h17 ∧ ((y18 = 0 → Q (some (.int 1)) h17) ∧ (¬ (y18 = 0) → eb_Ct d 211 [.long (x1 - x1 / 10 * 10)] h17 (fun r h21 => ∃ y22, r = some (.int y22) ∧ eb_KO h21 ∧ Q (some (.int (if y22 = 0 then 1 else 0 : Int32))) h21)))))))) ∧ (¬ (y10 = 0) → Q (some (.int 0)) h9)))) ∧ (¬ (y6 = 0) → eb_Ct d 191 [.ref s_MO, .long ((x1 - 100) - (x1 - 100) / 100 * 100)] h5 (fun r h26 => ∃ y27, r = some (.int y27) ∧ eb_KO h26 ∧ Q (some (.int (if y27 = 0 then 1 else 0 : Int32))) h26))))) ∧ (¬ (y2 = 0) → eb_Ct d 203 [.ref s_MO, .int x1.toInt32] h1 (fun r h31 => ∃ y32, r = some (.int y32) ∧ eb_KO h31 ∧ Q (some (.int y32)) h31))))) : eb_Ct (d + 1) 218 [.ref s_MO, .long x1] h Q :=
  eb_bodyQ (by decide) ok_X11_whyNot (Nat.le_of_ble_eq_true rfl) (b_X11_whyNot_0 (h0 := h) x1  ko w)
theorem b_X11_does_0 {d : Nat} {h0 h : eb_H} {Q : Option Value → eb_H → Prop} (x1 : Int32)  (ko : eb_KO h) (w : (((4 : Int32) ≤ x1 → (((200 : Int32) ≤ x1 → (((300 : Int32) ≤ x1 → (((310 : Int32) ≤ x1 → (vp_in ((34 : Int32) + ((x1 - 1000) / 10)) 3492) ∧ Q none (eb_sI h s_m_all ((34 : Int32) + ((x1 - 1000) / 10)).toNatClampNeg (x1 - x1 / 10 * 10))) ∧ (¬ ((310 : Int32) ≤ x1) → Q none (eb_sI h s_m_all (51 : Int32).toNatClampNeg (x1 - 300))))) ∧ (¬ ((300 : Int32) ≤ x1) → Q none (eb_sI h s_m_all (50 : Int32).toNatClampNeg ((eb_I h s_m_all (50 : Int32).toNatClampNeg) ^^^ ((1 : Int32) <<< ((x1 - 200) &&& 31))))))) ∧ (¬ ((200 : Int32) ≤ x1) → eb_Ct d 210 [.ref s_MO, .int (x1 - 100)] h (fun r h6 => r = none ∧ eb_KO h6 ∧ Q none h6)))) ∧ (¬ ((4 : Int32) ≤ x1) → eb_Ct d 209 [.ref s_MO, .int x1] h (fun r h9 => r = none ∧ eb_KO h9 ∧ Q none h9)))) : eb_Sn (d + 1) m_X11_does h0 0 [(0, .ref s_MO), (1, .int x1)] [] h Q := by
  refine eb_iload_n (pc := 0) (n := 1) (i := 1) rfl rfl rfl ?_
  refine eb_iconst (pc := 1) (n := 4) (v := 4) rfl rfl ?_
  refine eb_icmp_ge (pc := 2) (tgt := 13) rfl (by decide) (fun c1 => ?_) (fun c1 => ?_)
  · replace w := w.1 c1
    refine eb_iload_n (pc := 13) (n := 1) (i := 1) rfl rfl rfl ?_
    refine eb_sipush (pc := 14) (n := 200) (v := 200) rfl rfl ?_
    refine eb_icmp_ge (pc := 17) (tgt := 31) rfl (by decide) (fun c2 => ?_) (fun c2 => ?_)
    · replace w := w.1 c2
      refine eb_iload_n (pc := 31) (n := 1) (i := 1) rfl rfl rfl ?_
      refine eb_sipush (pc := 32) (n := 300) (v := 300) rfl rfl ?_
      refine eb_icmp_ge (pc := 35) (tgt := 58) rfl (by decide) (fun c3 => ?_) (fun c3 => ?_)
      · replace w := w.1 c3
        refine eb_iload_n (pc := 58) (n := 1) (i := 1) rfl rfl rfl ?_
        refine eb_sipush (pc := 59) (n := 310) (v := 310) rfl rfl ?_
        refine eb_icmp_ge (pc := 62) (tgt := 80) rfl (by decide) (fun c4 => ?_) (fun c4 => ?_)
        · replace w := w.1 c4
          refine eb_aload_n (pc := 80) (n := 0) (i := 0) rfl rfl rfl ?_
          refine eb_getR (pc := 81) rfl rfl (by decide) (by decide) rfl (ko_s_MO_1 ko) ?_
          refine eb_bipush (pc := 84) (n := 34) (v := 34) rfl rfl ?_
          refine eb_iload_n (pc := 86) (n := 1) (i := 1) rfl rfl rfl ?_
          refine eb_sipush (pc := 87) (n := 1000) (v := 1000) rfl rfl ?_
          refine eb_isub (pc := 90) rfl ?_
          refine eb_bipush (pc := 91) (n := 10) (v := 10) rfl rfl ?_
          refine eb_idiv (pc := 93) (by decide) rfl ?_
          refine eb_iadd (pc := 94) rfl ?_
          refine eb_iload_n (pc := 95) (n := 1) (i := 1) rfl rfl rfl ?_
          refine eb_bipush (pc := 96) (n := 10) (v := 10) rfl rfl ?_
          refine eb_irem (pc := 98) (by decide) rfl ?_
          obtain ⟨c5, w⟩ := w
          refine eb_iastore (pc := 99) rfl rfl c5 ?_
          exact eb_return (pc := 100) rfl rfl w
        · replace w := w.2 c4
          refine eb_aload_n (pc := 65) (n := 0) (i := 0) rfl rfl rfl ?_
          refine eb_getR (pc := 66) rfl rfl (by decide) (by decide) rfl (ko_s_MO_1 ko) ?_
          refine eb_bipush (pc := 69) (n := 51) (v := 51) rfl rfl ?_
          refine eb_iload_n (pc := 71) (n := 1) (i := 1) rfl rfl rfl ?_
          refine eb_sipush (pc := 72) (n := 300) (v := 300) rfl rfl ?_
          refine eb_isub (pc := 75) rfl ?_
          refine eb_iastore (pc := 76) rfl rfl (by unfold vp_in; decide) ?_
          refine eb_goto (pc := 77) (tgt := 100) rfl (by decide) ?_
          exact eb_return (pc := 100) rfl rfl w
      · replace w := w.2 c3
        refine eb_aload_n (pc := 38) (n := 0) (i := 0) rfl rfl rfl ?_
        refine eb_getR (pc := 39) rfl rfl (by decide) (by decide) rfl (ko_s_MO_1 ko) ?_
        refine eb_bipush (pc := 42) (n := 50) (v := 50) rfl rfl ?_
        refine eb_dup2 (pc := 44) rfl ?_
        refine eb_iaload (pc := 45) rfl rfl (by unfold vp_in; decide) ?_
        refine eb_iconst (pc := 46) (n := 1) (v := 1) rfl rfl ?_
        refine eb_iload_n (pc := 47) (n := 1) (i := 1) rfl rfl rfl ?_
        refine eb_sipush (pc := 48) (n := 200) (v := 200) rfl rfl ?_
        refine eb_isub (pc := 51) rfl ?_
        refine eb_ishl (pc := 52) rfl ?_
        refine eb_ixor (pc := 53) rfl ?_
        refine eb_iastore (pc := 54) rfl rfl (by unfold vp_in; decide) ?_
        refine eb_goto (pc := 55) (tgt := 100) rfl (by decide) ?_
        exact eb_return (pc := 100) rfl rfl w
    · replace w := w.2 c2
      refine eb_aload_n (pc := 20) (n := 0) (i := 0) rfl rfl rfl ?_
      refine eb_iload_n (pc := 21) (n := 1) (i := 1) rfl rfl rfl ?_
      refine eb_bipush (pc := 22) (n := 100) (v := 100) rfl rfl ?_
      refine eb_isub (pc := 24) rfl ?_
      refine eb_ctV (pc := 25) (As := [.int (x1 - 100)]) (rest := []) rfl (by decide) rfl rfl (by decide) rfl (Nat.le_of_ble_eq_true rfl) ?_
      refine eb_Ct.mono w ?_
      rintro r h6 ⟨rfl, ko8, w⟩
      change eb_Sn _ _ _ 28 _ [] _ _
      refine eb_goto (pc := 28) (tgt := 100) rfl (by decide) ?_
      exact eb_return (pc := 100) rfl rfl w
  · replace w := w.2 c1
    refine eb_aload_n (pc := 5) (n := 0) (i := 0) rfl rfl rfl ?_
    refine eb_iload_n (pc := 6) (n := 1) (i := 1) rfl rfl rfl ?_
    refine eb_ctV (pc := 7) (As := [.int x1]) (rest := []) rfl (by decide) rfl rfl (by decide) rfl (Nat.le_of_ble_eq_true rfl) ?_
    refine eb_Ct.mono w ?_
    rintro r h9 ⟨rfl, ko11, w⟩
    change eb_Sn _ _ _ 10 _ [] _ _
    refine eb_goto (pc := 10) (tgt := 100) rfl (by decide) ?_
    exact eb_return (pc := 100) rfl rfl w
theorem T_X11_does {d : Nat} {h : eb_H} {Q : Option Value → eb_H → Prop} (x1 : Int32)  (ko : eb_KO h) (w : (((4 : Int32) ≤ x1 → (((200 : Int32) ≤ x1 → (((300 : Int32) ≤ x1 → (((310 : Int32) ≤ x1 → (vp_in ((34 : Int32) + ((x1 - 1000) / 10)) 3492) ∧ Q none (eb_sI h s_m_all ((34 : Int32) + ((x1 - 1000) / 10)).toNatClampNeg (x1 - x1 / 10 * 10))) ∧ (¬ ((310 : Int32) ≤ x1) → Q none (eb_sI h s_m_all (51 : Int32).toNatClampNeg (x1 - 300))))) ∧ (¬ ((300 : Int32) ≤ x1) → Q none (eb_sI h s_m_all (50 : Int32).toNatClampNeg ((eb_I h s_m_all (50 : Int32).toNatClampNeg) ^^^ ((1 : Int32) <<< ((x1 - 200) &&& 31))))))) ∧ (¬ ((200 : Int32) ≤ x1) → eb_Ct d 210 [.ref s_MO, .int (x1 - 100)] h (fun r h6 => r = none ∧ eb_KO h6 ∧ Q none h6)))) ∧ (¬ ((4 : Int32) ≤ x1) → eb_Ct d 209 [.ref s_MO, .int x1] h (fun r h9 => r = none ∧ eb_KO h9 ∧ Q none h9)))) : eb_Ct (d + 1) 219 [.ref s_MO, .int x1] h Q :=
  eb_bodyQ (by decide) ok_X11_does (Nat.le_of_ble_eq_true rfl) (b_X11_does_0 (h0 := h) x1  ko w)
theorem b_X11_tells_0 {d : Nat} {h0 h : eb_H} {Q : Option Value → eb_H → Prop} (x1 : Int32)  (ko : eb_KO h) (w : eb_Sn (d + 1) m_X11_tells h0 7 [(0, .ref s_MO), (1, .int x1), (2, .int 0)] [] (eb_sI h s_MO 19 0) Q) : eb_Sn (d + 1) m_X11_tells h0 0 [(0, .ref s_MO), (1, .int x1)] [] h Q := by
  refine eb_aload_n (pc := 0) (n := 0) (i := 0) rfl rfl rfl ?_
  refine eb_iconst (pc := 1) (n := 0) (v := 0) rfl rfl ?_
  refine eb_putI (pc := 2) rfl rfl (by decide) (by decide) rfl rfl ⟨rfl, rfl⟩ ?_
  refine eb_iconst (pc := 5) (n := 0) (v := 0) rfl rfl ?_
  refine eb_istore_n (pc := 6) (n := 2) (i := 2) (ls2 := [(2, .int 0), (0, .ref s_MO), (1, .int x1)]) rfl (Nat.le_of_ble_eq_true rfl) rfl rfl ?_
  exact eb_pick [1, 2, 0] rfl w
theorem b_X11_tells_7 {d : Nat} {h0 h : eb_H} {Q : Option Value → eb_H → Prop} (x1 : Int32) (x2 : Int32)  (ko : eb_KO h) (w : (vp_in x1 4) ∧ (((eb_I h s_m_rowMany x1.toNatClampNeg) ≤ x2 → (vp_in x1 4) ∧ Q (some (.int (eb_I h s_m_rowMany x1.toNatClampNeg))) h) ∧ (¬ ((eb_I h s_m_rowMany x1.toNatClampNeg) ≤ x2) → (vp_in (((40 : Int32) * x1) + x2) 160) ∧ eb_Ct d 218 [.ref s_MO, .long (eb_J h s_m_numbers (((40 : Int32) * x1) + x2).toNatClampNeg)] h (fun r h5 => ∃ y6, r = some (.int y6) ∧ eb_KO h5 ∧ (((eb_I (eb_sI h5 s_MO 19 y6) s_MO 19) = 0 → (vp_in (((40 : Int32) * x1) + x2) 160) ∧ eb_Ct d 219 [.ref s_MO, .int ((eb_J (eb_sI h5 s_MO 19 y6) s_m_numbers (((40 : Int32) * x1) + x2).toNatClampNeg).toInt32)] (eb_sI h5 s_MO 19 y6) (fun r h10 => r = none ∧ eb_KO h10 ∧ eb_Sn (d + 1) m_X11_tells h0 7 [(0, .ref s_MO), (1, .int x1), (2, .int (x2 + 1))] [] h10 Q)) ∧ (¬ ((eb_I (eb_sI h5 s_MO 19 y6) s_MO 19) = 0) → Q (some (.int x2)) (eb_sI h5 s_MO 19 y6))))))) : eb_Sn (d + 1) m_X11_tells h0 7 [(0, .ref s_MO), (1, .int x1), (2, .int x2)] [] h Q := by
  refine eb_iload_n (pc := 7) (n := 2) (i := 2) rfl rfl rfl ?_
  refine eb_aload_n (pc := 8) (n := 0) (i := 0) rfl rfl rfl ?_
  refine eb_getR (pc := 9) rfl rfl (by decide) (by decide) rfl (ko_s_MO_29 ko) ?_
  refine eb_iload_n (pc := 12) (n := 1) (i := 1) rfl rfl rfl ?_
  obtain ⟨c1, w⟩ := w
  refine eb_iaload (pc := 13) rfl rfl c1 ?_
  refine eb_icmp_ge (pc := 14) (tgt := 67) rfl (by decide) (fun c2 => ?_) (fun c2 => ?_)
  · replace w := w.1 c2
    refine eb_aload_n (pc := 67) (n := 0) (i := 0) rfl rfl rfl ?_
    refine eb_getR (pc := 68) rfl rfl (by decide) (by decide) rfl (ko_s_MO_29 ko) ?_
    refine eb_iload_n (pc := 71) (n := 1) (i := 1) rfl rfl rfl ?_
    obtain ⟨c3, w⟩ := w
    refine eb_iaload (pc := 72) rfl rfl c3 ?_
    exact eb_ireturn (pc := 73) rfl rfl rfl w
  · replace w := w.2 c2
    refine eb_aload_n (pc := 17) (n := 0) (i := 0) rfl rfl rfl ?_
    refine eb_aload_n (pc := 18) (n := 0) (i := 0) rfl rfl rfl ?_
    refine eb_aload_n (pc := 19) (n := 0) (i := 0) rfl rfl rfl ?_
    refine eb_getR (pc := 20) rfl rfl (by decide) (by decide) rfl (ko_s_MO_30 ko) ?_
    refine eb_bipush (pc := 23) (n := 40) (v := 40) rfl rfl ?_
    refine eb_iload_n (pc := 25) (n := 1) (i := 1) rfl rfl rfl ?_
    refine eb_imul (pc := 26) rfl ?_
    refine eb_iload_n (pc := 27) (n := 2) (i := 2) rfl rfl rfl ?_
    refine eb_iadd (pc := 28) rfl ?_
    obtain ⟨c4, w⟩ := w
    refine eb_laload (pc := 29) rfl rfl c4 ?_
    refine eb_ctV (pc := 30) (As := [.long (eb_J h s_m_numbers (((40 : Int32) * x1) + x2).toNatClampNeg)]) (rest := [.ref s_MO]) rfl (by decide) rfl rfl (by decide) rfl (Nat.le_of_ble_eq_true rfl) ?_
    refine eb_Ct.mono w ?_
    rintro r h5 ⟨y6, rfl, ko7, w⟩
    change eb_Sn _ _ _ 33 _ [.int y6, .ref s_MO] _ _
    refine eb_putI (pc := 33) rfl rfl (by decide) (by decide) rfl rfl ⟨rfl, rfl⟩ ?_
    refine eb_aload_n (pc := 36) (n := 0) (i := 0) rfl rfl rfl ?_
    refine eb_getI (pc := 37) rfl rfl (by decide) (by decide) rfl ?_
    refine eb_if_eq (pc := 40) (tgt := 45) rfl (by decide) (fun c8 => ?_) (fun c8 => ?_)
    · replace w := w.1 c8
      refine eb_aload_n (pc := 45) (n := 0) (i := 0) rfl rfl rfl ?_
      refine eb_aload_n (pc := 46) (n := 0) (i := 0) rfl rfl rfl ?_
      refine eb_getR (pc := 47) rfl rfl (by decide) (by decide) rfl (ko_s_MO_30 ko7) ?_
      refine eb_bipush (pc := 50) (n := 40) (v := 40) rfl rfl ?_
      refine eb_iload_n (pc := 52) (n := 1) (i := 1) rfl rfl rfl ?_
      refine eb_imul (pc := 53) rfl ?_
      refine eb_iload_n (pc := 54) (n := 2) (i := 2) rfl rfl rfl ?_
      refine eb_iadd (pc := 55) rfl ?_
      obtain ⟨c9, w⟩ := w
      refine eb_laload (pc := 56) rfl rfl c9 ?_
      refine eb_l2i (pc := 57) rfl ?_
      refine eb_ctV (pc := 58) (As := [.int ((eb_J (eb_sI h5 s_MO 19 y6) s_m_numbers (((40 : Int32) * x1) + x2).toNatClampNeg).toInt32)]) (rest := []) rfl (by decide) rfl rfl (by decide) rfl (Nat.le_of_ble_eq_true rfl) ?_
      refine eb_Ct.mono w ?_
      rintro r h10 ⟨rfl, ko12, w⟩
      change eb_Sn _ _ _ 61 _ [] _ _
      refine eb_iinc (pc := 61) (i := 2) (n := 1) (v := x2 + 1) (ls2 := [(2, .int (x2 + 1)), (0, .ref s_MO), (1, .int x1)]) (Nat.le_of_ble_eq_true rfl) rfl rfl rfl rfl ?_
      refine eb_goto (pc := 64) (tgt := 7) rfl (by decide) ?_
      exact eb_pick [1, 2, 0] rfl w
    · replace w := w.2 c8
      refine eb_iload_n (pc := 43) (n := 2) (i := 2) rfl rfl rfl ?_
      exact eb_ireturn (pc := 44) rfl rfl rfl w
theorem T_X11_tells {d : Nat} {h : eb_H} {Q : Option Value → eb_H → Prop} (x1 : Int32)  (ko : eb_KO h) (w : eb_Sn (d + 1) m_X11_tells h 7 [(0, .ref s_MO), (1, .int x1), (2, .int 0)] [] (eb_sI h s_MO 19 0) Q) : eb_Ct (d + 1) 220 [.ref s_MO, .int x1] h Q :=
  eb_bodyQ (by decide) ok_X11_tells (Nat.le_of_ble_eq_true rfl) (b_X11_tells_0 (h0 := h) x1  ko w)
theorem b_X11_noTray_0 {d : Nat} {h0 h : eb_H} {Q : Option Value → eb_H → Prop} (x1 : Int32)  (ko : eb_KO h) (w : eb_Ct d 156 [.long x1.toInt64, .long 0, .long 3] h (fun r h1 => ∃ y2, r = some (.int y2) ∧ eb_KO h1 ∧ ((¬ y2 = 0 → (vp_in x1 4) ∧ Q (some (.int (if (eb_I h1 s_m_rowSort x1.toNatClampNeg) = ((-1) : Int32) then (-6) else 0 : Int32))) h1) ∧ (y2 = 0 → Q (some (.int (-2))) h1)))) : eb_Sn (d + 1) m_X11_noTray h0 0 [(0, .ref s_MO), (1, .int x1)] [] h Q := by
  refine eb_iload_n (pc := 0) (n := 1) (i := 1) rfl rfl rfl ?_
  refine eb_i2l (pc := 1) rfl ?_
  refine eb_lconst (pc := 2) (n := 0) (v := 0) rfl rfl ?_
  refine eb_ldc2 (pc := 3) (a := 3) (v := 3) rfl (by decide) ?_
  refine eb_ctS (pc := 6) (As := [.long x1.toInt64, .long 0, .long 3]) (rest := []) rfl (by decide) (by decide) rfl rfl (Nat.le_of_ble_eq_true rfl) ?_
  refine eb_Ct.mono w ?_
  rintro r h1 ⟨y2, rfl, ko3, w⟩
  change eb_Sn _ _ _ 9 _ [.int y2] _ _
  refine eb_if_ne (pc := 9) (tgt := 17) rfl (by decide) (fun c4 => ?_) (fun c4 => ?_)
  · replace w := w.1 c4
    refine eb_aload_n (pc := 17) (n := 0) (i := 0) rfl rfl rfl ?_
    refine eb_getR (pc := 18) rfl rfl (by decide) (by decide) rfl (ko_s_MO_28 ko3) ?_
    refine eb_iload_n (pc := 21) (n := 1) (i := 1) rfl rfl rfl ?_
    obtain ⟨c5, w⟩ := w
    refine eb_iaload (pc := 22) rfl rfl c5 ?_
    refine eb_iconst (pc := 23) (n := -1) (v := (-1)) rfl rfl ?_
    have jj7 : eb_Sn (d + 1) m_X11_noTray h0 33 [(0, .ref s_MO), (1, .int x1)] [.int (if (eb_I h1 s_m_rowSort x1.toNatClampNeg) = ((-1) : Int32) then (-6) else 0 : Int32)] h1 Q := by
      exact eb_ireturn (pc := 33) rfl rfl rfl w
    refine eb_icmp_ne (pc := 24) (tgt := 32) rfl (by decide) (fun c6 => ?_) (fun c6 => ?_)
    · refine eb_iconst (pc := 32) (n := 0) (v := 0) rfl rfl ?_
      simp only [if_neg c6] at jj7 ⊢
      exact jj7
    · refine eb_bipush (pc := 27) (n := -6) (v := (-6)) rfl rfl ?_
      refine eb_goto (pc := 29) (tgt := 33) rfl (by decide) ?_
      simp only [if_pos c6] at jj7 ⊢
      exact jj7
  · replace w := w.2 c4
    refine eb_bipush (pc := 12) (n := -2) (v := (-2)) rfl rfl ?_
    refine eb_goto (pc := 14) (tgt := 33) rfl (by decide) ?_
    exact eb_ireturn (pc := 33) rfl rfl rfl w
theorem T_X11_noTray {d : Nat} {h : eb_H} {Q : Option Value → eb_H → Prop} (x1 : Int32)  (ko : eb_KO h) (w : eb_Ct d 156 [.long x1.toInt64, .long 0, .long 3] h (fun r h1 => ∃ y2, r = some (.int y2) ∧ eb_KO h1 ∧ ((¬ y2 = 0 → (vp_in x1 4) ∧ Q (some (.int (if (eb_I h1 s_m_rowSort x1.toNatClampNeg) = ((-1) : Int32) then (-6) else 0 : Int32))) h1) ∧ (y2 = 0 → Q (some (.int (-2))) h1)))) : eb_Ct (d + 1) 221 [.ref s_MO, .int x1] h Q :=
  eb_bodyQ (by decide) ok_X11_noTray (Nat.le_of_ble_eq_true rfl) (b_X11_noTray_0 (h0 := h) x1  ko w)
theorem b_X11_judge_0 {d : Nat} {h0 h : eb_H} {Q : Option Value → eb_H → Prop} (x1 : Int32) (x2 : Int32)  (ko : eb_KO h) (w : eb_Ct d 156 [.long x2.toInt64, .long 0, .long 3] (eb_sI h s_MO 0 0) (fun r h1 => ∃ y2, r = some (.int y2) ∧ eb_KO h1 ∧ ((¬ y2 = 0 → eb_Ct d 221 [.ref s_MO, .int x1] h1 (fun r h5 => ∃ y6, r = some (.int y6) ∧ eb_KO h5 ∧ ((y6 = 0 → eb_Ct d 206 [.ref s_MO] h5 (fun r h9 => r = none ∧ eb_KO h9 ∧ eb_Ct d 220 [.ref s_MO, .int x1] h9 (fun r h12 => ∃ y13, r = some (.int y13) ∧ eb_KO h12 ∧ eb_Ct d 195 [.ref s_MO] h12 (fun r h15 => ∃ y16, r = some (.int y16) ∧ eb_KO h15 ∧ eb_Ct d 207 [.ref s_MO] h15 (fun r h18 => r = none ∧ eb_KO h18 ∧ Q (some (.int (if x2 = 0 then (if (eb_I h18 s_MO 19) = 0 then (-1) else y13) else (if x2 = (1 : Int32) then eb_I h18 s_MO 19 else (if x2 = (2 : Int32) then y16 / 64 else y16 - y16 / 64 * 64)) : Int32))) h18))))) ∧ (¬ (y6 = 0) → Q (some (.int y6)) h5)))) ∧ (y2 = 0 → Q (some (.int (-2))) h1)))) : eb_Sn (d + 1) m_X11_judge h0 0 [(0, .ref s_MO), (1, .int x1), (2, .int x2)] [] h Q := by
  refine eb_aload_n (pc := 0) (n := 0) (i := 0) rfl rfl rfl ?_
  refine eb_iconst (pc := 1) (n := 0) (v := 0) rfl rfl ?_
  refine eb_putI (pc := 2) rfl rfl (by decide) (by decide) rfl rfl ⟨rfl, rfl⟩ ?_
  refine eb_iload_n (pc := 5) (n := 2) (i := 2) rfl rfl rfl ?_
  refine eb_i2l (pc := 6) rfl ?_
  refine eb_lconst (pc := 7) (n := 0) (v := 0) rfl rfl ?_
  refine eb_ldc2 (pc := 8) (a := 3) (v := 3) rfl (by decide) ?_
  refine eb_ctS (pc := 11) (As := [.long x2.toInt64, .long 0, .long 3]) (rest := []) rfl (by decide) (by decide) rfl rfl (Nat.le_of_ble_eq_true rfl) ?_
  refine eb_Ct.mono w ?_
  rintro r h1 ⟨y2, rfl, ko3, w⟩
  change eb_Sn _ _ _ 14 _ [.int y2] _ _
  refine eb_if_ne (pc := 14) (tgt := 20) rfl (by decide) (fun c4 => ?_) (fun c4 => ?_)
  · replace w := w.1 c4
    refine eb_aload_n (pc := 20) (n := 0) (i := 0) rfl rfl rfl ?_
    refine eb_iload_n (pc := 21) (n := 1) (i := 1) rfl rfl rfl ?_
    refine eb_ctV (pc := 22) (As := [.int x1]) (rest := []) rfl (by decide) rfl rfl (by decide) rfl (Nat.le_of_ble_eq_true rfl) ?_
    refine eb_Ct.mono w ?_
    rintro r h5 ⟨y6, rfl, ko7, w⟩
    change eb_Sn _ _ _ 25 _ [.int y6] _ _
    refine eb_istore_n (pc := 25) (n := 3) (i := 3) (ls2 := [(3, .int y6), (0, .ref s_MO), (1, .int x1), (2, .int x2)]) rfl (Nat.le_of_ble_eq_true rfl) rfl rfl ?_
    refine eb_iload_n (pc := 26) (n := 3) (i := 3) rfl rfl rfl ?_
    refine eb_if_eq (pc := 27) (tgt := 32) rfl (by decide) (fun c8 => ?_) (fun c8 => ?_)
    · replace w := w.1 c8
      refine eb_aload_n (pc := 32) (n := 0) (i := 0) rfl rfl rfl ?_
      refine eb_ctV (pc := 33) (As := []) (rest := []) rfl (by decide) rfl rfl (by decide) rfl (Nat.le_of_ble_eq_true rfl) ?_
      refine eb_Ct.mono w ?_
      rintro r h9 ⟨rfl, ko11, w⟩
      change eb_Sn _ _ _ 36 _ [] _ _
      refine eb_aload_n (pc := 36) (n := 0) (i := 0) rfl rfl rfl ?_
      refine eb_iload_n (pc := 37) (n := 1) (i := 1) rfl rfl rfl ?_
      refine eb_ctV (pc := 38) (As := [.int x1]) (rest := []) rfl (by decide) rfl rfl (by decide) rfl (Nat.le_of_ble_eq_true rfl) ?_
      refine eb_Ct.mono w ?_
      rintro r h12 ⟨y13, rfl, ko14, w⟩
      change eb_Sn _ _ _ 41 _ [.int y13] _ _
      refine eb_istore (pc := 41) (i := 4) (ls2 := [(4, .int y13), (3, .int y6), (0, .ref s_MO), (1, .int x1), (2, .int x2)]) (Nat.le_of_ble_eq_true rfl) rfl rfl ?_
      refine eb_aload_n (pc := 43) (n := 0) (i := 0) rfl rfl rfl ?_
      refine eb_ctV (pc := 44) (As := []) (rest := []) rfl (by decide) rfl rfl (by decide) rfl (Nat.le_of_ble_eq_true rfl) ?_
      refine eb_Ct.mono w ?_
      rintro r h15 ⟨y16, rfl, ko17, w⟩
      change eb_Sn _ _ _ 47 _ [.int y16] _ _
      refine eb_istore (pc := 47) (i := 5) (ls2 := [(5, .int y16), (4, .int y13), (3, .int y6), (0, .ref s_MO), (1, .int x1), (2, .int x2)]) (Nat.le_of_ble_eq_true rfl) rfl rfl ?_
      refine eb_aload_n (pc := 49) (n := 0) (i := 0) rfl rfl rfl ?_
      refine eb_ctV (pc := 50) (As := []) (rest := []) rfl (by decide) rfl rfl (by decide) rfl (Nat.le_of_ble_eq_true rfl) ?_
      refine eb_Ct.mono w ?_
      rintro r h18 ⟨rfl, ko20, w⟩
      change eb_Sn _ _ _ 53 _ [] _ _
      refine eb_iload_n (pc := 53) (n := 2) (i := 2) rfl rfl rfl ?_
      have jj25 : eb_Sn (d + 1) m_X11_judge h0 103 [(5, .int y16), (4, .int y13), (3, .int y6), (0, .ref s_MO), (1, .int x1), (2, .int x2)] [.int (if x2 = 0 then (if (eb_I h18 s_MO 19) = 0 then (-1) else y13) else (if x2 = (1 : Int32) then eb_I h18 s_MO 19 else (if x2 = (2 : Int32) then y16 / 64 else y16 - y16 / 64 * 64)) : Int32)] h18 Q := by
        exact eb_ireturn (pc := 103) rfl rfl rfl w
      refine eb_if_ne (pc := 54) (tgt := 73) rfl (by decide) (fun c21 => ?_) (fun c21 => ?_)
      · refine eb_iload_n (pc := 73) (n := 2) (i := 2) rfl rfl rfl ?_
        refine eb_iconst (pc := 74) (n := 1) (v := 1) rfl rfl ?_
        refine eb_icmp_ne (pc := 75) (tgt := 85) rfl (by decide) (fun c22 => ?_) (fun c22 => ?_)
        · refine eb_iload_n (pc := 85) (n := 2) (i := 2) rfl rfl rfl ?_
          refine eb_iconst (pc := 86) (n := 2) (v := 2) rfl rfl ?_
          refine eb_icmp_ne (pc := 87) (tgt := 98) rfl (by decide) (fun c23 => ?_) (fun c23 => ?_)
          · refine eb_iload (pc := 98) (i := 5) rfl rfl ?_
            refine eb_bipush (pc := 100) (n := 64) (v := 64) rfl rfl ?_
            refine eb_irem (pc := 102) (by decide) rfl ?_
            simp only [if_neg c21, if_neg c22, if_neg c23] at jj25 ⊢
            exact jj25
          · refine eb_iload (pc := 90) (i := 5) rfl rfl ?_
            refine eb_bipush (pc := 92) (n := 64) (v := 64) rfl rfl ?_
            refine eb_idiv (pc := 94) (by decide) rfl ?_
            refine eb_goto (pc := 95) (tgt := 103) rfl (by decide) ?_
            simp only [if_neg c21, if_neg c22, if_pos c23] at jj25 ⊢
            exact jj25
        · refine eb_aload_n (pc := 78) (n := 0) (i := 0) rfl rfl rfl ?_
          refine eb_getI (pc := 79) rfl rfl (by decide) (by decide) rfl ?_
          refine eb_goto (pc := 82) (tgt := 103) rfl (by decide) ?_
          simp only [if_neg c21, if_pos c22] at jj25 ⊢
          exact jj25
      · refine eb_aload_n (pc := 57) (n := 0) (i := 0) rfl rfl rfl ?_
        refine eb_getI (pc := 58) rfl rfl (by decide) (by decide) rfl ?_
        refine eb_if_ne (pc := 61) (tgt := 68) rfl (by decide) (fun c24 => ?_) (fun c24 => ?_)
        · refine eb_iload (pc := 68) (i := 4) rfl rfl ?_
          refine eb_goto (pc := 70) (tgt := 103) rfl (by decide) ?_
          simp only [if_pos c21, if_neg c24] at jj25 ⊢
          exact jj25
        · refine eb_iconst (pc := 64) (n := -1) (v := (-1)) rfl rfl ?_
          refine eb_goto (pc := 65) (tgt := 103) rfl (by decide) ?_
          simp only [if_pos c21, if_pos c24] at jj25 ⊢
          exact jj25
    · replace w := w.2 c8
      refine eb_iload_n (pc := 30) (n := 3) (i := 3) rfl rfl rfl ?_
      exact eb_ireturn (pc := 31) rfl rfl rfl w
  · replace w := w.2 c4
    refine eb_bipush (pc := 17) (n := -2) (v := (-2)) rfl rfl ?_
    exact eb_ireturn (pc := 19) rfl rfl rfl w
theorem T_X11_judge {d : Nat} {h : eb_H} {Q : Option Value → eb_H → Prop} (x1 : Int32) (x2 : Int32)  (ko : eb_KO h) (w : eb_Ct d 156 [.long x2.toInt64, .long 0, .long 3] (eb_sI h s_MO 0 0) (fun r h1 => ∃ y2, r = some (.int y2) ∧ eb_KO h1 ∧ ((¬ y2 = 0 → eb_Ct d 221 [.ref s_MO, .int x1] h1 (fun r h5 => ∃ y6, r = some (.int y6) ∧ eb_KO h5 ∧ ((y6 = 0 → eb_Ct d 206 [.ref s_MO] h5 (fun r h9 => r = none ∧ eb_KO h9 ∧ eb_Ct d 220 [.ref s_MO, .int x1] h9 (fun r h12 => ∃ y13, r = some (.int y13) ∧ eb_KO h12 ∧ eb_Ct d 195 [.ref s_MO] h12 (fun r h15 => ∃ y16, r = some (.int y16) ∧ eb_KO h15 ∧ eb_Ct d 207 [.ref s_MO] h15 (fun r h18 => r = none ∧ eb_KO h18 ∧ Q (some (.int (if x2 = 0 then (if (eb_I h18 s_MO 19) = 0 then (-1) else y13) else (if x2 = (1 : Int32) then eb_I h18 s_MO 19 else (if x2 = (2 : Int32) then y16 / 64 else y16 - y16 / 64 * 64)) : Int32))) h18))))) ∧ (¬ (y6 = 0) → Q (some (.int y6)) h5)))) ∧ (y2 = 0 → Q (some (.int (-2))) h1)))) : eb_Ct (d + 1) 222 [.ref s_MO, .int x1, .int x2] h Q :=
  eb_bodyQ (by decide) ok_X11_judge (Nat.le_of_ble_eq_true rfl) (b_X11_judge_0 (h0 := h) x1 x2  ko w)
theorem b_X11_perform_0 {d : Nat} {h0 h : eb_H} {Q : Option Value → eb_H → Prop} (x1 : Int32)  (ko : eb_KO h) (w : eb_Ct d 221 [.ref s_MO, .int x1] (eb_sI h s_MO 0 0) (fun r h1 => ∃ y2, r = some (.int y2) ∧ eb_KO h1 ∧ ((y2 = 0 → eb_Ct d 206 [.ref s_MO] h1 (fun r h5 => r = none ∧ eb_KO h5 ∧ eb_Ct d 220 [.ref s_MO, .int x1] h5 (fun r h8 => ∃ y9, r = some (.int y9) ∧ eb_KO h8 ∧ ((y9 ≤ 0 → Q (some (.int y9)) h8) ∧ (¬ (y9 ≤ 0) → eb_Ct d 208 [.ref s_MO] h8 (fun r h12 => r = none ∧ eb_KO h12 ∧ Q (some (.int y9)) h12)))))) ∧ (¬ (y2 = 0) → Q (some (.int y2)) h1)))) : eb_Sn (d + 1) m_X11_perform h0 0 [(0, .ref s_MO), (1, .int x1)] [] h Q := by
  refine eb_aload_n (pc := 0) (n := 0) (i := 0) rfl rfl rfl ?_
  refine eb_iconst (pc := 1) (n := 0) (v := 0) rfl rfl ?_
  refine eb_putI (pc := 2) rfl rfl (by decide) (by decide) rfl rfl ⟨rfl, rfl⟩ ?_
  refine eb_aload_n (pc := 5) (n := 0) (i := 0) rfl rfl rfl ?_
  refine eb_iload_n (pc := 6) (n := 1) (i := 1) rfl rfl rfl ?_
  refine eb_ctV (pc := 7) (As := [.int x1]) (rest := []) rfl (by decide) rfl rfl (by decide) rfl (Nat.le_of_ble_eq_true rfl) ?_
  refine eb_Ct.mono w ?_
  rintro r h1 ⟨y2, rfl, ko3, w⟩
  change eb_Sn _ _ _ 10 _ [.int y2] _ _
  refine eb_istore_n (pc := 10) (n := 2) (i := 2) (ls2 := [(2, .int y2), (0, .ref s_MO), (1, .int x1)]) rfl (Nat.le_of_ble_eq_true rfl) rfl rfl ?_
  refine eb_iload_n (pc := 11) (n := 2) (i := 2) rfl rfl rfl ?_
  refine eb_if_eq (pc := 12) (tgt := 17) rfl (by decide) (fun c4 => ?_) (fun c4 => ?_)
  · replace w := w.1 c4
    refine eb_aload_n (pc := 17) (n := 0) (i := 0) rfl rfl rfl ?_
    refine eb_ctV (pc := 18) (As := []) (rest := []) rfl (by decide) rfl rfl (by decide) rfl (Nat.le_of_ble_eq_true rfl) ?_
    refine eb_Ct.mono w ?_
    rintro r h5 ⟨rfl, ko7, w⟩
    change eb_Sn _ _ _ 21 _ [] _ _
    refine eb_aload_n (pc := 21) (n := 0) (i := 0) rfl rfl rfl ?_
    refine eb_iload_n (pc := 22) (n := 1) (i := 1) rfl rfl rfl ?_
    refine eb_ctV (pc := 23) (As := [.int x1]) (rest := []) rfl (by decide) rfl rfl (by decide) rfl (Nat.le_of_ble_eq_true rfl) ?_
    refine eb_Ct.mono w ?_
    rintro r h8 ⟨y9, rfl, ko10, w⟩
    change eb_Sn _ _ _ 26 _ [.int y9] _ _
    refine eb_istore_n (pc := 26) (n := 3) (i := 3) (ls2 := [(3, .int y9), (2, .int y2), (0, .ref s_MO), (1, .int x1)]) rfl (Nat.le_of_ble_eq_true rfl) rfl rfl ?_
    refine eb_iload_n (pc := 27) (n := 3) (i := 3) rfl rfl rfl ?_
    refine eb_if_le (pc := 28) (tgt := 35) rfl (by decide) (fun c11 => ?_) (fun c11 => ?_)
    · replace w := w.1 c11
      refine eb_iload_n (pc := 35) (n := 3) (i := 3) rfl rfl rfl ?_
      exact eb_ireturn (pc := 36) rfl rfl rfl w
    · replace w := w.2 c11
      refine eb_aload_n (pc := 31) (n := 0) (i := 0) rfl rfl rfl ?_
      refine eb_ctV (pc := 32) (As := []) (rest := []) rfl (by decide) rfl rfl (by decide) rfl (Nat.le_of_ble_eq_true rfl) ?_
      refine eb_Ct.mono w ?_
      rintro r h12 ⟨rfl, ko14, w⟩
      change eb_Sn _ _ _ 35 _ [] _ _
      refine eb_iload_n (pc := 35) (n := 3) (i := 3) rfl rfl rfl ?_
      exact eb_ireturn (pc := 36) rfl rfl rfl w
  · replace w := w.2 c4
    refine eb_iload_n (pc := 15) (n := 2) (i := 2) rfl rfl rfl ?_
    exact eb_ireturn (pc := 16) rfl rfl rfl w
theorem T_X11_perform {d : Nat} {h : eb_H} {Q : Option Value → eb_H → Prop} (x1 : Int32)  (ko : eb_KO h) (w : eb_Ct d 221 [.ref s_MO, .int x1] (eb_sI h s_MO 0 0) (fun r h1 => ∃ y2, r = some (.int y2) ∧ eb_KO h1 ∧ ((y2 = 0 → eb_Ct d 206 [.ref s_MO] h1 (fun r h5 => r = none ∧ eb_KO h5 ∧ eb_Ct d 220 [.ref s_MO, .int x1] h5 (fun r h8 => ∃ y9, r = some (.int y9) ∧ eb_KO h8 ∧ ((y9 ≤ 0 → Q (some (.int y9)) h8) ∧ (¬ (y9 ≤ 0) → eb_Ct d 208 [.ref s_MO] h8 (fun r h12 => r = none ∧ eb_KO h12 ∧ Q (some (.int y9)) h12)))))) ∧ (¬ (y2 = 0) → Q (some (.int y2)) h1)))) : eb_Ct (d + 1) 223 [.ref s_MO, .int x1] h Q :=
  eb_bodyQ (by decide) ok_X11_perform (Nat.le_of_ble_eq_true rfl) (b_X11_perform_0 (h0 := h) x1  ko w)
theorem b_X11_draw_0 {d : Nat} {h0 h : eb_H} {Q : Option Value → eb_H → Prop} (x1 : Int32)  (ko : eb_KO h) (w : (¬ x1 = 0) ∧ Q (some (.int ((((eb_I (eb_sI h s_MO 20 (((1103515245 : Int32) * (eb_I h s_MO 20)) + 12345)) s_MO 20).toUInt32 >>> ((16 : Int32).toUInt32 &&& Int32.toUInt32 31)).toInt32) - (((eb_I (eb_sI h s_MO 20 (((1103515245 : Int32) * (eb_I h s_MO 20)) + 12345)) s_MO 20).toUInt32 >>> ((16 : Int32).toUInt32 &&& Int32.toUInt32 31)).toInt32) / x1 * x1))) (eb_sI h s_MO 20 (((1103515245 : Int32) * (eb_I h s_MO 20)) + 12345))) : eb_Sn d m_X11_draw h0 0 [(0, .ref s_MO), (1, .int x1)] [] h Q := by
  refine eb_aload_n (pc := 0) (n := 0) (i := 0) rfl rfl rfl ?_
  refine eb_ldcw (pc := 1) (a := 1103515245) (v := 1103515245) rfl (by decide) ?_
  refine eb_aload_n (pc := 4) (n := 0) (i := 0) rfl rfl rfl ?_
  refine eb_getI (pc := 5) rfl rfl (by decide) (by decide) rfl ?_
  refine eb_imul (pc := 8) rfl ?_
  refine eb_sipush (pc := 9) (n := 12345) (v := 12345) rfl rfl ?_
  refine eb_iadd (pc := 12) rfl ?_
  refine eb_putI (pc := 13) rfl rfl (by decide) (by decide) rfl rfl ⟨rfl, rfl⟩ ?_
  refine eb_aload_n (pc := 16) (n := 0) (i := 0) rfl rfl rfl ?_
  refine eb_getI (pc := 17) rfl rfl (by decide) (by decide) rfl ?_
  refine eb_bipush (pc := 20) (n := 16) (v := 16) rfl rfl ?_
  refine eb_iushr (pc := 22) rfl ?_
  refine eb_iload_n (pc := 23) (n := 1) (i := 1) rfl rfl rfl ?_
  obtain ⟨c1, w⟩ := w
  refine eb_irem (pc := 24) c1 rfl ?_
  exact eb_ireturn (pc := 25) rfl rfl rfl w
theorem T_X11_draw {d : Nat} {h : eb_H} {Q : Option Value → eb_H → Prop} (x1 : Int32)  (ko : eb_KO h) (w : (¬ x1 = 0) ∧ Q (some (.int ((((eb_I (eb_sI h s_MO 20 (((1103515245 : Int32) * (eb_I h s_MO 20)) + 12345)) s_MO 20).toUInt32 >>> ((16 : Int32).toUInt32 &&& Int32.toUInt32 31)).toInt32) - (((eb_I (eb_sI h s_MO 20 (((1103515245 : Int32) * (eb_I h s_MO 20)) + 12345)) s_MO 20).toUInt32 >>> ((16 : Int32).toUInt32 &&& Int32.toUInt32 31)).toInt32) / x1 * x1))) (eb_sI h s_MO 20 (((1103515245 : Int32) * (eb_I h s_MO 20)) + 12345))) : eb_Ct d 224 [.ref s_MO, .int x1] h Q :=
  eb_bodyQ (by decide) ok_X11_draw (Nat.le_of_ble_eq_true rfl) (b_X11_draw_0 (h0 := h) x1  ko w)
theorem b_X11_drawn_0 {d : Nat} {h0 h : eb_H} {Q : Option Value → eb_H → Prop}   (ko : eb_KO h) (w : eb_Ct d 224 [.ref s_MO, .int 8] h (fun r h1 => ∃ y2, r = some (.int y2) ∧ eb_KO h1 ∧ (((4 : Int32) ≤ y2 → ((¬ y2 = (7 : Int32) → eb_Ct d 224 [.ref s_MO, .int 16] h1 (fun r h6 => ∃ y7, r = some (.int y7) ∧ eb_KO h6 ∧ ((¬ y2 = (4 : Int32) → ((¬ y2 = (6 : Int32) → eb_Ct d 224 [.ref s_MO, .int 7] h6 (fun r h11 => ∃ y12, r = some (.int y12) ∧ eb_KO h11 ∧ Q (some (.int (((1000 : Int32) + ((10 : Int32) * y7)) + y12))) h11)) ∧ (y2 = (6 : Int32) → Q (some (.int ((200 : Int32) + y7))) h6))) ∧ (y2 = (4 : Int32) → Q (some (.int ((100 : Int32) + y7))) h6)))) ∧ (y2 = (7 : Int32) → eb_Ct d 224 [.ref s_MO, .int 10] h1 (fun r h14 => ∃ y15, r = some (.int y15) ∧ eb_KO h14 ∧ Q (some (.int ((300 : Int32) + y15))) h14)))) ∧ (¬ ((4 : Int32) ≤ y2) → eb_Ct d 224 [.ref s_MO, .int 4] h1 (fun r h17 => ∃ y18, r = some (.int y18) ∧ eb_KO h17 ∧ Q (some (.int y18)) h17))))) : eb_Sn (d + 1) m_X11_drawn h0 0 [(0, .ref s_MO)] [] h Q := by
  refine eb_aload_n (pc := 0) (n := 0) (i := 0) rfl rfl rfl ?_
  refine eb_bipush (pc := 1) (n := 8) (v := 8) rfl rfl ?_
  refine eb_ctV (pc := 3) (As := [.int 8]) (rest := []) rfl (by decide) rfl rfl (by decide) rfl (Nat.le_of_ble_eq_true rfl) ?_
  refine eb_Ct.mono w ?_
  rintro r h1 ⟨y2, rfl, ko3, w⟩
  change eb_Sn _ _ _ 6 _ [.int y2] _ _
  refine eb_istore_n (pc := 6) (n := 1) (i := 1) (ls2 := [(1, .int y2), (0, .ref s_MO)]) rfl (Nat.le_of_ble_eq_true rfl) rfl rfl ?_
  refine eb_iload_n (pc := 7) (n := 1) (i := 1) rfl rfl rfl ?_
  refine eb_iconst (pc := 8) (n := 4) (v := 4) rfl rfl ?_
  refine eb_icmp_ge (pc := 9) (tgt := 18) rfl (by decide) (fun c4 => ?_) (fun c4 => ?_)
  · replace w := w.1 c4
    refine eb_iload_n (pc := 18) (n := 1) (i := 1) rfl rfl rfl ?_
    refine eb_bipush (pc := 19) (n := 7) (v := 7) rfl rfl ?_
    refine eb_icmp_ne (pc := 21) (tgt := 35) rfl (by decide) (fun c5 => ?_) (fun c5 => ?_)
    · replace w := w.1 c5
      refine eb_aload_n (pc := 35) (n := 0) (i := 0) rfl rfl rfl ?_
      refine eb_bipush (pc := 36) (n := 16) (v := 16) rfl rfl ?_
      refine eb_ctV (pc := 38) (As := [.int 16]) (rest := []) rfl (by decide) rfl rfl (by decide) rfl (Nat.le_of_ble_eq_true rfl) ?_
      refine eb_Ct.mono w ?_
      rintro r h6 ⟨y7, rfl, ko8, w⟩
      change eb_Sn _ _ _ 41 _ [.int y7] _ _
      refine eb_istore_n (pc := 41) (n := 2) (i := 2) (ls2 := [(2, .int y7), (1, .int y2), (0, .ref s_MO)]) rfl (Nat.le_of_ble_eq_true rfl) rfl rfl ?_
      refine eb_iload_n (pc := 42) (n := 1) (i := 1) rfl rfl rfl ?_
      refine eb_iconst (pc := 43) (n := 4) (v := 4) rfl rfl ?_
      refine eb_icmp_ne (pc := 44) (tgt := 54) rfl (by decide) (fun c9 => ?_) (fun c9 => ?_)
      · replace w := w.1 c9
        refine eb_iload_n (pc := 54) (n := 1) (i := 1) rfl rfl rfl ?_
        refine eb_bipush (pc := 55) (n := 6) (v := 6) rfl rfl ?_
        refine eb_icmp_ne (pc := 57) (tgt := 68) rfl (by decide) (fun c10 => ?_) (fun c10 => ?_)
        · replace w := w.1 c10
          refine eb_sipush (pc := 68) (n := 1000) (v := 1000) rfl rfl ?_
          refine eb_bipush (pc := 71) (n := 10) (v := 10) rfl rfl ?_
          refine eb_iload_n (pc := 73) (n := 2) (i := 2) rfl rfl rfl ?_
          refine eb_imul (pc := 74) rfl ?_
          refine eb_iadd (pc := 75) rfl ?_
          refine eb_aload_n (pc := 76) (n := 0) (i := 0) rfl rfl rfl ?_
          refine eb_bipush (pc := 77) (n := 7) (v := 7) rfl rfl ?_
          refine eb_ctV (pc := 79) (As := [.int 7]) (rest := [.int ((1000 : Int32) + ((10 : Int32) * y7))]) rfl (by decide) rfl rfl (by decide) rfl (Nat.le_of_ble_eq_true rfl) ?_
          refine eb_Ct.mono w ?_
          rintro r h11 ⟨y12, rfl, ko13, w⟩
          change eb_Sn _ _ _ 82 _ [.int y12, .int ((1000 : Int32) + ((10 : Int32) * y7))] _ _
          refine eb_iadd (pc := 82) rfl ?_
          exact eb_ireturn (pc := 83) rfl rfl rfl w
        · replace w := w.2 c10
          refine eb_sipush (pc := 60) (n := 200) (v := 200) rfl rfl ?_
          refine eb_iload_n (pc := 63) (n := 2) (i := 2) rfl rfl rfl ?_
          refine eb_iadd (pc := 64) rfl ?_
          refine eb_goto (pc := 65) (tgt := 83) rfl (by decide) ?_
          exact eb_ireturn (pc := 83) rfl rfl rfl w
      · replace w := w.2 c9
        refine eb_bipush (pc := 47) (n := 100) (v := 100) rfl rfl ?_
        refine eb_iload_n (pc := 49) (n := 2) (i := 2) rfl rfl rfl ?_
        refine eb_iadd (pc := 50) rfl ?_
        refine eb_goto (pc := 51) (tgt := 83) rfl (by decide) ?_
        exact eb_ireturn (pc := 83) rfl rfl rfl w
    · replace w := w.2 c5
      refine eb_sipush (pc := 24) (n := 300) (v := 300) rfl rfl ?_
      refine eb_aload_n (pc := 27) (n := 0) (i := 0) rfl rfl rfl ?_
      refine eb_bipush (pc := 28) (n := 10) (v := 10) rfl rfl ?_
      refine eb_ctV (pc := 30) (As := [.int 10]) (rest := [.int 300]) rfl (by decide) rfl rfl (by decide) rfl (Nat.le_of_ble_eq_true rfl) ?_
      refine eb_Ct.mono w ?_
      rintro r h14 ⟨y15, rfl, ko16, w⟩
      change eb_Sn _ _ _ 33 _ [.int y15, .int 300] _ _
      refine eb_iadd (pc := 33) rfl ?_
      exact eb_ireturn (pc := 34) rfl rfl rfl w
  · replace w := w.2 c4
    refine eb_aload_n (pc := 12) (n := 0) (i := 0) rfl rfl rfl ?_
    refine eb_iconst (pc := 13) (n := 4) (v := 4) rfl rfl ?_
    refine eb_ctV (pc := 14) (As := [.int 4]) (rest := []) rfl (by decide) rfl rfl (by decide) rfl (Nat.le_of_ble_eq_true rfl) ?_
    refine eb_Ct.mono w ?_
    rintro r h17 ⟨y18, rfl, ko19, w⟩
    change eb_Sn _ _ _ 17 _ [.int y18] _ _
    exact eb_ireturn (pc := 17) rfl rfl rfl w
theorem T_X11_drawn {d : Nat} {h : eb_H} {Q : Option Value → eb_H → Prop}   (ko : eb_KO h) (w : eb_Ct d 224 [.ref s_MO, .int 8] h (fun r h1 => ∃ y2, r = some (.int y2) ∧ eb_KO h1 ∧ (((4 : Int32) ≤ y2 → ((¬ y2 = (7 : Int32) → eb_Ct d 224 [.ref s_MO, .int 16] h1 (fun r h6 => ∃ y7, r = some (.int y7) ∧ eb_KO h6 ∧ ((¬ y2 = (4 : Int32) → ((¬ y2 = (6 : Int32) → eb_Ct d 224 [.ref s_MO, .int 7] h6 (fun r h11 => ∃ y12, r = some (.int y12) ∧ eb_KO h11 ∧ Q (some (.int (((1000 : Int32) + ((10 : Int32) * y7)) + y12))) h11)) ∧ (y2 = (6 : Int32) → Q (some (.int ((200 : Int32) + y7))) h6))) ∧ (y2 = (4 : Int32) → Q (some (.int ((100 : Int32) + y7))) h6)))) ∧ (y2 = (7 : Int32) → eb_Ct d 224 [.ref s_MO, .int 10] h1 (fun r h14 => ∃ y15, r = some (.int y15) ∧ eb_KO h14 ∧ Q (some (.int ((300 : Int32) + y15))) h14)))) ∧ (¬ ((4 : Int32) ≤ y2) → eb_Ct d 224 [.ref s_MO, .int 4] h1 (fun r h17 => ∃ y18, r = some (.int y18) ∧ eb_KO h17 ∧ Q (some (.int y18)) h17))))) : eb_Ct (d + 1) 225 [.ref s_MO] h Q :=
  eb_bodyQ (by decide) ok_X11_drawn (Nat.le_of_ble_eq_true rfl) (b_X11_drawn_0 (h0 := h)   ko w)
