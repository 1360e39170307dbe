section EBSIMB
variable {L : Nat} {xs : Nat → Int32}
theorem ee_opc {l k : Nat} (h : ee_op l k ≠ 0) : ∃ c, ee_t1 (ee_op l k) = c ∧ (∀ tk v, ee_cc tk k v = c) ∧ c / 10 = ee_P (3 + 2 * l) ∧ c ≠ 1040 ∧ c < 2000 ∧ (l < 2 → c = 1060 ∨ c = 1061 ∨ c = 1070) ∧ (2 ≤ l → c = 1030 ∨ c = 1020) ∧ k ≠ 24 ∧ k ≠ 25 ∧ k ≠ 30 ∧ l < 4 := by
  by_cases a1 : l = 0 ∧ k = 34
  · obtain ⟨rfl, rfl⟩ := a1
    exact ⟨1070, rfl, fun _ _ => rfl, rfl, by decide, by decide, fun _ => Or.inr (Or.inr rfl), fun z => absurd z (by decide), by decide, by decide, by decide, by decide⟩
  · by_cases a2 : l = 1 ∧ k = 32
    · obtain ⟨rfl, rfl⟩ := a2
      exact ⟨1060, rfl, fun _ _ => rfl, rfl, by decide, by decide, fun _ => Or.inl rfl, fun z => absurd z (by decide), by decide, by decide, by decide, by decide⟩
    · by_cases a3 : l = 1 ∧ k = 33
      · obtain ⟨rfl, rfl⟩ := a3
        exact ⟨1061, rfl, fun _ _ => rfl, rfl, by decide, by decide, fun _ => Or.inr (Or.inl rfl), fun z => absurd z (by decide), by decide, by decide, by decide, by decide⟩
      · by_cases a4 : l = 2 ∧ k = 14
        · obtain ⟨rfl, rfl⟩ := a4
          exact ⟨1030, rfl, fun _ _ => rfl, rfl, by decide, by decide, fun z => absurd z (by decide), fun _ => Or.inl rfl, by decide, by decide, by decide, by decide⟩
        · by_cases a5 : l = 3 ∧ k = 15
          · obtain ⟨rfl, rfl⟩ := a5
            exact ⟨1020, rfl, fun _ _ => rfl, rfl, by decide, by decide, fun z => absurd z (by decide), fun _ => Or.inr rfl, by decide, by decide, by decide, by decide⟩
          · exfalso
            apply h
            unfold ee_op
            rw [if_neg a1, if_neg a2, if_neg a3, if_neg a4, if_neg a5]
/-- the levels -/
theorem ee_lv (l : Nat) (hl : l < 4) : ee_P (3 + 2 * l) = ee_P (2 + 2 * l) ∧ ee_P (2 + 2 * l) ≤ ee_P (ee_sub l) ∧ ee_wb (2 + 2 * l) + 1 = ee_wb (ee_sub l) ∧ ee_P (2 + 2 * l) < ee_H (ee_sub l) ∧ ee_H (2 + 2 * l) = ee_P (2 + 2 * l) ∧ ee_rk (ee_sub l) < ee_rk (2 + 2 * l) ∧ ee_rk (2 + 2 * l) < 6 ∧ ee_rk (3 + 2 * l) = 6 ∧ 102 ≤ ee_P (2 + 2 * l) ∧ ee_sub l ≤ 9 ∧ (ee_sub l % 2 = 0 ∨ ee_sub l = 1) ∧ ee_wb (2 + 2 * l) ≤ 4 ∧ (l < 2 → (ee_sub l = 0 ∨ ee_sub l = 2)) ∧ (2 ≤ l → (ee_sub l = 1 ∨ ee_sub l = 6)) := by
  have h : l = 0 ∨ l = 1 ∨ l = 2 ∨ l = 3 := by omega
  rcases h with rfl | rfl | rfl | rfl <;> decide
theorem ee_simU {d : Nat} {h0 gB g : eb_H} {Q : Option Value → eb_H → Prop} {tx : Nat → Nat} {n : Nat} (ht : ∀ j, j < n → tx j < 256) (hn : n ≤ 900) (tk : Bool) (x : Int32) (hx : x = 0 ↔ ¬ tk = true) (ko : eb_KO gB) {f : Nat} (IH : ee_Sim d h0 gB Q tx n tk x f) (dp p : Nat) (acc C W : List Nat) (ps br sd fr i : Nat) (fu : 10 * (n - p) + 3 < f + 1) (B : ee_B0 gB tx n 1 dp p C W ps br sd fr i g) (Kf : ∀ y, (ee_pa tx n tk (f + 1) 1 dp p acc).2.1 = some y → ∀ g' i', ee_fw gB g' → (∃ p', p' ≤ n ∧ ee_XT g' tx n p' (some y)) → ee_LS g' → ee_HD d h0 Q x g' i') (Ko : (ee_pa tx n tk (f + 1) 1 dp p acc).2.1 = none → ∀ g' i' e q, ee_EN gB tx n 1 dp p (ee_pa tx n tk (f + 1) 1 dp p acc).1 (ee_pa tx n tk (f + 1) 1 dp p acc).2.2 C W ps br sd g' i' e q → ee_HD d h0 Q x g' i') : ee_HD d h0 Q x g i := by
  obtain ⟨⟨w1, w2, w3, w4, w5⟩, ⟨hps, hbr⟩, _, high, S⟩ := B
  obtain ⟨h1, h2, h3⟩ := high (Or.inl rfl)
  subst h1 h2 h3
  have S0 := S
  obtain ⟨s1, s2, s3, s4, s5, s6⟩ := S
  have w1 : W.length ≤ 3 * dp + 2 := w1
  have w5 : ∀ x W', W = x :: W' → x / 10 < 105 := w5
  have kg := s1.1.ko ko
  rw [ee_pa_1] at Kf Ko
  by_cases k16 : ee_k tx n p = 16
  · rw [if_pos k16] at Kf Ko
    have ec : ee_cc tk (ee_k tx n p) (ee_v tx n p) = 1040 := by rw [k16]; rfl
    by_cases d6 : dp = 6
    · subst d6
      rw [if_pos rfl] at Kf Ko
      exact S_six ht hn tk x hx S0 ko ⟨by omega, by omega, by omega⟩ (by omega) w3 w4 1040 (Or.inr ⟨Or.inl rfl, rfl⟩) ec (by omega) (fun g' i' a b c => Kf _ rfl g' i' a b c)
    · rw [if_neg d6] at Kf Ko
      rw [(ee_nf_n (tx := tx) (p := p) hn).mpr (by omega)] at s2
      obtain ⟨g1, g2⟩ := ee_gt hn s6 (show ee_k tx n p ≠ 24 by omega)
      refine S_gen ht hn tk x hx S0 ko (by omega) (fun z => absurd z.2.1 (by omega)) ⟨by omega, by omega, by omega, by omega⟩ (fun _ => ?_) (fun z => absurd z (by omega))
      rw [ec, ee_ci_n (by omega)]
      refine C_o2 (d := d + 5) s3 1040 (Or.inr ⟨Or.inl rfl, rfl⟩) (by omega) (by omega) (by omega) (by omega) kg (fun h' F' l' => ⟨_, rfl, F'.ko kg, fun _ => S_ok (C := C) (W := 1040 :: W) (dp := dp + 1) (ps := 0) (br := br) (sd := 0) (wa := 1) (fr := 1) ht hn s1 s2 s6 s5 (by omega) ko F' l' (by show C.length + (W.length + 1) ≤ i + 1; omega) (fun g' S' => ?_), fun z => absurd z (by decide)⟩)
      have nt1 : ee_nt (1040 :: W) = 1 + ee_nt W := rfl
      refine IH 1 (dp + 1) (ee_e tx n p) [] C (1040 :: W) 0 br 0 1 (i + 1) g' (by omega) (by show 10 * (n - ee_e tx n p) + 3 < f; omega) (fun _ => ⟨⟨by show W.length + 1 ≤ 3 * (dp + 1) + 2; omega, by omega, by rw [nt1]; omega, fun y hy => ?_, fun y W' e => ?_⟩, ⟨by omega, by omega⟩, fun z => absurd z (by omega), fun _ => ⟨rfl, rfl, rfl⟩, S'⟩) (fun z => absurd (Or.inr rfl) z) (fun y hy g2 i2 => Kf y (ee_bd_f hy) g2 i2) (fun hn0 g2 i2 e q EN => ?_)
      · rcases List.mem_cons.mp hy with z | z
        · rw [z]; decide
        · exact w4 y z
      · cases e
        decide
      · rw [ee_bd_n hn0] at Kf Ko
        generalize (ee_pa tx n tk f 1 (dp + 1) (ee_e tx n p) []).1 = p1 at Kf Ko EN
        generalize (ee_pa tx n tk f 1 (dp + 1) (ee_e tx n p) []).2.2 = cs at Kf Ko EN
        obtain ⟨n1, n2, n3, n4, n5, n6, sd', _, n7, n8, SS2⟩ := EN
        have n1 := n1 (Or.inr rfl)
        have ea : (q ++ [1040]) ++ W = q ++ 1040 :: W := by rw [List.append_assoc]; rfl
        have en : dp + ee_nt (q ++ [1040]) = dp + 1 + ee_nt q := by
          rw [ee_nt_app, show ee_nt [1040] = 1 from rfl]
          omega
        refine Ko rfl g2 i2 e (q ++ [1040]) ⟨fun _ => by show p < p1; omega, by show p ≤ p1; omega, ?_, fun y hy => ?_, ?_, ?_, sd', fun z => absurd rfl z.2, fun _ => n7 (Or.inr rfl), n8, ?_⟩
        · show (cs ++ [3006]).map ee_t1 = e ++ (q ++ [1040])
          rw [List.map_append, n3, List.append_assoc]
          rfl
        · rcases List.mem_append.mp hy with z | z
          · exact n4 y z
          · rcases List.mem_cons.mp z with u | u
            · rw [u]; decide
            · exact absurd u (List.not_mem_nil)
        · rw [ea, en]; exact n5
        · rw [en]; exact n6
        · rw [ea, en]; exact SS2
  · rw [if_neg k16] at Kf Ko
    by_cases k37 : ee_k tx n p = 37
    · rw [if_pos k37] at Kf Ko
      have ec : ee_cc tk (ee_k tx n p) (ee_v tx n p) = 1010 := by rw [k37]; rfl
      by_cases d6 : dp = 6
      · subst d6
        rw [if_pos rfl] at Kf Ko
        exact S_six ht hn tk x hx S0 ko ⟨by omega, by omega, by omega⟩ (by omega) w3 w4 1010 (Or.inr ⟨Or.inr rfl, rfl⟩) ec (by omega) (fun g' i' a b c => Kf _ rfl g' i' a b c)
      · rw [if_neg d6] at Kf Ko
        rw [(ee_nf_n (tx := tx) (p := p) hn).mpr (by omega)] at s2
        obtain ⟨g1, g2⟩ := ee_gt hn s6 (show ee_k tx n p ≠ 24 by omega)
        refine S_gen ht hn tk x hx S0 ko (by omega) (fun z => absurd z.2.1 (by omega)) ⟨by omega, by omega, by omega, by omega⟩ (fun _ => ?_) (fun z => absurd z (by omega))
        rw [ec, ee_ci_n (by omega)]
        refine C_o2 (d := d + 5) s3 1010 (Or.inr ⟨Or.inr rfl, rfl⟩) (by omega) (by omega) (by omega) (by omega) kg (fun h' F' l' => ⟨_, rfl, F'.ko kg, fun _ => S_ok (C := C) (W := 1010 :: W) (dp := dp + 1) (ps := 0) (br := br + 1) (sd := 0) (wa := 1) (fr := 1) ht hn s1 s2 s6 s5 (by omega) ko F' l' (by show C.length + (W.length + 1) ≤ i + 1; omega) (fun g' S' => ?_), fun z => absurd z (by decide)⟩)
        have nt1 : ee_nt (1010 :: W) = ee_nt W := Nat.zero_add _
        refine IH 8 (dp + 1) (ee_e tx n p) [] C (1010 :: W) 0 (br + 1) 0 1 (i + 1) g' (by omega) (by show 10 * (n - ee_e tx n p) + 5 < f; omega) (fun _ => ⟨⟨by show W.length + 1 ≤ 3 * (dp + 1) + 0; omega, by omega, by rw [nt1]; omega, fun y hy => ?_, fun y W' e => ?_⟩, ⟨by omega, by omega⟩, fun z => absurd z (by omega), fun _ => ⟨rfl, rfl, rfl⟩, S'⟩) (fun z => absurd (Or.inl rfl) z) (fun y hy g2 i2 => Kf y (ee_bd_f hy) g2 i2) (fun hn0 g2 i2 e q EN => ?_)
        · rcases List.mem_cons.mp hy with z | z
          · rw [z]; decide
          · exact w4 y z
        · cases e
          decide
        · rw [ee_bd_n hn0] at Kf Ko
          generalize (ee_pa tx n tk f 8 (dp + 1) (ee_e tx n p) []).1 = p1 at Kf Ko EN
          generalize (ee_pa tx n tk f 8 (dp + 1) (ee_e tx n p) []).2.2 = cs at Kf Ko EN
          obtain ⟨n1, n2, n3, n4, n5, n6, sd', _, n7, n8, SS2⟩ := EN
          have n7 := n7 (Or.inl (by omega))
          have n1 := n1 (Or.inl rfl)
          have S20 := SS2
          obtain ⟨t1, t2, t3, t4, t5, t6⟩ := SS2
          have k2 := t1.1.ko ko
          have ntq : ee_nt (q ++ 1010 :: W) = ee_nt q + ee_nt W := by rw [ee_nt_app, nt1]
          have lq : (q ++ 1010 :: W).length = q.length + (W.length + 1) := List.length_append
          have lc : (e.reverse ++ C).length = e.length + C.length := by rw [List.length_append, List.length_reverse]
          have p8 : ee_P 8 = 102 := rfl
          have hel : ∀ y, y ∈ q ++ 1010 :: W → 101 ≤ y / 10 ∧ y < 2000 := fun y hy => by
            rcases List.mem_append.mp hy with z | z
            · have := n4 y z
              omega
            · rcases List.mem_cons.mp z with u | u
              · rw [u]; decide
              · exact w4 y u
          by_cases k38 : ee_k tx n p1 = 38
          · rw [if_pos k38] at Kf Ko
            rw [(ee_nf_n (tx := tx) (p := p1) hn).mpr (by omega)] at t2
            obtain ⟨g3, g4⟩ := ee_gt hn t6 (show ee_k tx n p1 ≠ 24 by omega)
            refine S_gen ht hn tk x hx S20 ko (by omega) (fun z => absurd z.1 (by omega)) ⟨by omega, by omega, by omega, by omega⟩ (fun z => absurd z (by omega)) (fun _ => ?_)
            have ec2 : ee_cc tk (ee_k tx n p1) (ee_v tx n p1) = 1080 := by rw [k38]; rfl
            rw [ec2, ee_ci_n (by omega)]
            refine C_j5 (d := d + 3) t3 (by omega) n7 (fun y hy => by have := n4 y hy; omega) (by omega) (by omega) (by omega) k2 (fun h3 F3 l3 => ⟨_, rfl, F3.ko k2, fun _ => S_ok (C := q.reverse ++ (e.reverse ++ C)) (W := W) (dp := dp) (ps := 0) (br := br) (sd := 2) (wa := 0) (fr := 0) ht hn t1 t2 t6 t5 (by omega) ko F3 l3 (by rw [List.length_append, List.length_reverse]; omega) (fun g4' S4 => ?_), fun z => absurd z (by decide)⟩)
            refine Ko rfl g4' (i2 + 1) (e ++ q) [] ⟨fun _ => by show p < ee_e tx n p1; omega, by show p ≤ ee_e tx n p1; omega, by rw [List.append_nil]; exact n3, fun y hy => absurd hy (List.not_mem_nil), by show W.length ≤ 3 * dp + 5; omega, w2, 2, fun z => absurd rfl z.2, fun _ => Or.inr rfl, ⟨fun _ z => absurd rfl z, fun _ z => absurd rfl z, fun z => absurd z (by omega), fun z => absurd z (by omega)⟩, ?_⟩
            rw [List.reverse_append, List.append_assoc]
            exact S4
          · rw [if_neg k38] at Kf Ko
            have o2 := ee_op2 (n8.2.2.1 (by omega))
            have o3 := ee_op3 (n8.2.2.2 (by omega))
            refine S_bad0 ht hn tk x hx S20 ko (fun z => absurd z.2.2.2 (by omega)) ⟨by omega, by omega, by omega⟩ (by omega) (by omega) (by omega) hel (fun z => ?_) (fun _ _ => by omega) (fun _ _ => ⟨o2, o3, fun u => absurd u k38⟩) (fun z => absurd rfl z) (fun g3 i3 a b c => Kf _ rfl g3 i3 a b c)
            refine Classical.byContradiction fun u => ?_
            have o0 := ee_op0 (n8.1 (by omega) u)
            have o1 := ee_op1 (n8.2.1 (Or.inl (by omega)) u)
            omega
    · rw [if_neg k37] at Kf Ko
      refine IH 4 dp p [] C W 0 br 0 1 i g (by omega) (by show 10 * (n - p) + 2 < f; omega) (fun _ => ⟨⟨by show W.length ≤ 3 * dp + 3; omega, w2, w3, w4, fun y W' e => by have := w5 y W' e; show y / 10 < 106; omega⟩, ⟨by omega, by omega⟩, fun _ => ⟨by omega, by omega, fun _ => ⟨k16, k37⟩⟩, fun z => absurd z (by omega), S0⟩) (fun z => absurd (Or.inl rfl) z) (fun y hy g2 i2 => Kf y (ee_bd_f hy) g2 i2) (fun hn0 g2 i2 e1 q1 EN => ?_)
      rw [ee_bd_n hn0] at Kf Ko
      generalize (ee_pa tx n tk f 4 dp p []).1 = p1 at Kf Ko EN
      generalize (ee_pa tx n tk f 4 dp p []).2.2 = cs1 at Kf Ko EN
      obtain ⟨n1, n2, n3, n4, n5, n6, sd', n7, _, n8, SS2⟩ := EN
      have n7 := n7 ⟨by omega, by omega⟩
      subst n7
      have n1 := n1 (Or.inl rfl)
      have p4 : ee_P 4 = 106 := rfl
      have S20 := SS2
      obtain ⟨t1, t2, t3, t4, t5, t6⟩ := SS2
      have k2 := t1.1.ko ko
      have lq : (q1 ++ W).length = q1.length + W.length := List.length_append
      have lc : (e1.reverse ++ C).length = e1.length + C.length := by rw [List.length_append, List.length_reverse]
      have ntq : ee_nt (q1 ++ W) = ee_nt q1 + ee_nt W := ee_nt_app _ _
      have o0 := ee_op0 (n8.1 (by omega) (by omega))
      have o1 := ee_op1 (n8.2.1 (Or.inl (by omega)) (by omega))
      by_cases kc : 39 ≤ ee_k tx n p1 ∧ ee_k tx n p1 ≤ 41
      · rw [if_pos kc] at Kf Ko
        obtain ⟨c, hc⟩ : ∃ c, c = 1050 + (ee_k tx n p1 - 39) := ⟨_, rfl⟩
        have ec2 : ee_cc tk (ee_k tx n p1) (ee_v tx n p1) = c := by
          rw [hc]
          have h3 : ee_k tx n p1 = 39 ∨ ee_k tx n p1 = 40 ∨ ee_k tx n p1 = 41 := by omega
          rcases h3 with z | z | z <;> rw [z] <;> rfl
        have et : ee_t1 (3003 + (ee_k tx n p1 - 39)) = c := by
          rw [hc]
          have h3 : ee_k tx n p1 = 39 ∨ ee_k tx n p1 = 40 ∨ ee_k tx n p1 = 41 := by omega
          rcases h3 with z | z | z <;> rw [z] <;> rfl
        rw [(ee_nf_n (tx := tx) (p := p1) hn).mpr (by omega)] at t2
        obtain ⟨g3, g4⟩ := ee_gt hn t6 (show ee_k tx n p1 ≠ 24 by omega)
        refine S_gen ht hn tk x hx S20 ko (by omega) (fun z => absurd z.1 (by omega)) ⟨by omega, by omega, by omega, by omega⟩ (fun z => absurd z (by omega)) (fun _ => ?_)
        rw [ec2, ee_ci_n (by omega)]
        refine C_j2 (d := d + 3) t3 c (by omega) (fun y hy => by have := n4 y hy; omega) (fun y W' e => by have := w5 y W' e; have := w4 y (by rw [e]; exact List.mem_cons_self ..); omega) (by omega) (by omega) (by omega) k2 (fun h3 F3 l3 => ⟨_, rfl, F3.ko k2, fun _ => S_ok (C := q1.reverse ++ (e1.reverse ++ C)) (W := c :: W) (dp := dp) (ps := 0) (br := br) (sd := 1) (wa := 1) (fr := 0) ht hn t1 t2 t6 t5 (by omega) ko F3 l3 (by show _ + (W.length + 1) ≤ _; rw [List.length_append, List.length_reverse]; omega) (fun g4' S4 => ?_), fun z => absurd z (by decide)⟩)
        have nt1 : ee_nt (c :: W) = ee_nt W := by
          show (if c = 1040 then 1 else 0) + ee_nt W = ee_nt W
          rw [if_neg (by omega), Nat.zero_add]
        refine IH 4 dp (ee_e tx n p1) [] (q1.reverse ++ (e1.reverse ++ C)) (c :: W) 0 br 1 0 (i2 + 1) g4' (by omega) (by show 10 * (n - ee_e tx n p1) + 2 < f; omega) (fun _ => ⟨⟨by show W.length + 1 ≤ 3 * dp + 3; omega, w2, by rw [nt1]; exact w3, fun y hy => ?_, fun y W' e => ?_⟩, ⟨by omega, by omega⟩, fun _ => ⟨by omega, by omega, fun z => absurd z (by omega)⟩, fun z => absurd z (by omega), S4⟩) (fun z => absurd (Or.inl rfl) z) (fun y hy g5 i5 => Kf y (ee_bd_f hy) g5 i5) (fun hn1 g5 i5 e2 q2 EN2 => ?_)
        · rcases List.mem_cons.mp hy with z | z
          · rw [z]; omega
          · exact w4 y z
        · cases e
          show c / 10 < 106
          omega
        · rw [ee_bd_n hn1] at Kf Ko
          generalize (ee_pa tx n tk f 4 dp (ee_e tx n p1) []).1 = p2 at Kf Ko EN2
          generalize (ee_pa tx n tk f 4 dp (ee_e tx n p1) []).2.2 = cs2 at Kf Ko EN2
          obtain ⟨m1, m2, m3, m4, m5, m6, sd2, m7, _, m8, SS3⟩ := EN2
          have m7 := m7 ⟨by omega, by omega⟩
          subst m7
          have m1 := m1 (Or.inl rfl)
          have ea : (q2 ++ [c]) ++ W = q2 ++ c :: W := by rw [List.append_assoc]; rfl
          have en : dp + ee_nt (q2 ++ [c]) = dp + ee_nt q2 := by
            rw [ee_nt_app]
            have : ee_nt [c] = 0 := by
              show (if c = 1040 then 1 else 0) + 0 = 0
              rw [if_neg (by omega)]
            omega
          refine Ko rfl g5 i5 (e1 ++ q1 ++ e2) (q2 ++ [c]) ⟨fun _ => by show p < p2; omega, by show p ≤ p2; omega, ?_, fun y hy => ?_, ?_, ?_, 1, fun z => absurd rfl z.2, fun _ => Or.inl rfl, ⟨fun _ _ => m8.1 (by omega) (by omega), fun _ _ => m8.2.1 (Or.inl (by omega)) (by omega), fun z => absurd z (by omega), fun z => absurd z (by omega)⟩, ?_⟩
          · show (cs1 ++ cs2 ++ [3003 + (ee_k tx n p1 - 39)]).map ee_t1 = _
            rw [List.map_append, List.map_append, n3, m3, List.map_cons, et, List.map_nil]
            simp only [List.append_assoc]
          · rcases List.mem_append.mp hy with z | z
            · have := m4 y z
              show 104 ≤ y / 10 ∧ y < 2000
              omega
            · rcases List.mem_cons.mp z with u | u
              · rw [u]
                show 104 ≤ c / 10 ∧ c < 2000
                omega
              · exact absurd u (List.not_mem_nil)
          · rw [ea, en]; exact m5
          · rw [en]; exact m6
          · rw [ea, en, show (e1 ++ q1 ++ e2).reverse ++ C = e2.reverse ++ (q1.reverse ++ (e1.reverse ++ C)) by simp only [List.reverse_append, List.append_assoc]]
            exact SS3
      · rw [if_neg kc] at Kf Ko
        exact S_bad0 ht hn tk x hx S20 ko (fun z => absurd rfl z.2.1) ⟨by omega, by omega, by omega⟩ (by omega) (by omega) (by omega) (fun y hy => by
          rcases List.mem_append.mp hy with z | z
          · have := n4 y z
            omega
          · exact w4 y z) (fun z => absurd z (by omega)) (fun _ z => absurd z (by omega)) (fun _ z => absurd rfl z) (fun z => absurd rfl z) (fun g3 i3 a b c => Kf _ rfl g3 i3 a b c)
/-- chains -/
theorem ee_simC {d : Nat} {h0 gB g : eb_H} {Q : Option Value → eb_H → Prop} {tx : Nat → Nat} {n : Nat} (ht : ∀ j, j < n → tx j < 256) (hn : n ≤ 900) (tk : Bool) (x : Int32) (hx : x = 0 ↔ ¬ tk = true) (ko : eb_KO gB) {f : Nat} (IH : ee_Sim d h0 gB Q tx n tk x f) (l : Nat) (hl : l < 4) (dp p : Nat) (acc C W : List Nat) (ps br sd fr i : Nat) (fu : 10 * (n - p) + ee_rk (2 + 2 * l) < f + 1) (B : ee_B0 gB tx n (2 + 2 * l) dp p C W ps br sd fr i g) (Kf : ∀ y, (ee_pa tx n tk (f + 1) (2 + 2 * l) dp p acc).2.1 = some y → ∀ g' i', ee_fw gB g' → (∃ p', p' ≤ n ∧ ee_XT g' tx n p' (some y)) → ee_LS g' → ee_HD d h0 Q x g' i') (Ko : (ee_pa tx n tk (f + 1) (2 + 2 * l) dp p acc).2.1 = none → ∀ g' i' e q, ee_EN gB tx n (2 + 2 * l) dp p (ee_pa tx n tk (f + 1) (2 + 2 * l) dp p acc).1 (ee_pa tx n tk (f + 1) (2 + 2 * l) dp p acc).2.2 C W ps br sd g' i' e q → ee_HD d h0 Q x g' i') : ee_HD d h0 Q x g i := by
  obtain ⟨v1, v2, v3, v4, v5, v6, v7, v8, v9, v10, v11, v12, v13, v14⟩ := ee_lv l hl
  obtain ⟨⟨w1, w2, w3, w4, w5⟩, ⟨hps, hbr⟩, low, high, S⟩ := B
  rw [ee_pa_c hl] at Kf Ko
  refine IH (ee_sub l) dp p [] C W ps br sd fr i g v10 (by omega) (fun _ => ⟨⟨by omega, w2, w3, w4, fun y W' e => by have := w5 y W' e; omega⟩, ⟨hps, hbr⟩, fun z => low (by omega), fun z => high (by omega), S⟩) (fun z => absurd v11 z) (fun y hy g2 i2 => Kf y (ee_bd_f hy) g2 i2) (fun hn0 g2 i2 e q EN => ?_)
  rw [ee_bd_n hn0] at Kf Ko
  generalize (ee_pa tx n tk f (ee_sub l) dp p []).1 = p1 at Kf Ko EN
  generalize (ee_pa tx n tk f (ee_sub l) dp p []).2.2 = cs at Kf Ko EN
  obtain ⟨n1, n2, n3, n4, n5, n6, sd', n7, n9, n8, SS2⟩ := EN
  have n1 := n1 v11
  have pn := SS2.2.2.2.2.2
  refine IH (3 + 2 * l) dp p1 cs C W ps br sd' 0 i2 g2 (by omega) (by omega) (fun z => absurd z (by omega)) (fun _ => ⟨e, q, n3, by rw [show 3 + 2 * l - 1 = 2 + 2 * l by omega]; exact ⟨w1, w2, w3, w4, w5⟩, ⟨hps, hbr⟩, fun z => ?_, fun z => ?_, by rw [show (3 + 2 * l - 3) / 2 = l by omega]; exact n8, fun y hy => by have := n4 y hy; omega, n5, n6, SS2⟩) Kf (fun hn1 g3 i3 e3 q3 EN3 => Ko hn1 g3 i3 e3 q3 ?_)
  · have := n7 (by omega)
    have := (low (by omega)).1
    omega
  · exact ⟨(high (by omega)).1, n9 (by omega)⟩
  · obtain ⟨m1, m2, m3, m4, m5, m6, sd2, m7, m9, m8, SS3⟩ := EN3
    refine ⟨fun _ => by omega, by omega, m3, fun y hy => by have := m4 y hy; omega, m5, m6, sd2, fun z => ?_, fun z => m9 (by omega), ⟨fun _ => m8.1 (by omega), fun z => m8.2.1 (by omega), fun z => m8.2.2.1 (by omega), fun z => m8.2.2.2 (by omega)⟩, SS3⟩
    have a := m7 (by omega)
    have b := n7 (by omega)
    omega
/-- the rest of a chain -/
theorem ee_simL {d : Nat} {h0 gB g : eb_H} {Q : Option Value → eb_H → Prop} {tx : Nat → Nat} {n : Nat} (ht : ∀ j, j < n → tx j < 256) (hn : n ≤ 900) (tk : Bool) (x : Int32) (hx : x = 0 ↔ ¬ tk = true) (ko : eb_KO gB) {f : Nat} (IH : ee_Sim d h0 gB Q tx n tk x f) (l : Nat) (hl : l < 4) (dp p : Nat) (acc C W : List Nat) (ps br sd i : Nat) (fu : 10 * (n - p) + 6 < f + 1) (B : ee_B1 gB tx n (3 + 2 * l) dp p acc C W ps br sd i g) (Kf : ∀ y, (ee_pa tx n tk (f + 1) (3 + 2 * l) dp p acc).2.1 = some y → ∀ g' i', ee_fw gB g' → (∃ p', p' ≤ n ∧ ee_XT g' tx n p' (some y)) → ee_LS g' → ee_HD d h0 Q x g' i') (Ko : (ee_pa tx n tk (f + 1) (3 + 2 * l) dp p acc).2.1 = none → ∀ g' i' e q, ee_EN gB tx n (3 + 2 * l) dp p (ee_pa tx n tk (f + 1) (3 + 2 * l) dp p acc).1 (ee_pa tx n tk (f + 1) (3 + 2 * l) dp p acc).2.2 C W ps br sd g' i' e q → ee_HD d h0 Q x g' i') : ee_HD d h0 Q x g i := by
  obtain ⟨v1, v2, v3, v4, v5, v6, v7, v8, v9, v10, v11, v12, v13, v14⟩ := ee_lv l hl
  have lowS : Unit → l < 2 → (ee_sub l < 6 ∧ ee_sub l ≠ 1) := fun _ z => by rcases v13 z with y | y <;> omega
  have highS : Unit → 2 ≤ l → (6 ≤ ee_sub l ∨ ee_sub l = 1) := fun _ z => by rcases v14 z with y | y <;> omega
  have subL : Unit → (ee_sub l = 0 ∨ ee_sub l = 2 ∨ ee_sub l = 4) → l < 2 := fun _ z => Classical.byContradiction fun u => by rcases v14 (by omega) with y | y <;> omega
  have subH : Unit → (ee_sub l = 1 ∨ ee_sub l = 6 ∨ ee_sub l = 8) → 2 ≤ l := fun _ z => Classical.byContradiction fun u => by rcases v13 (by omega) with y | y <;> omega
  have vev : Unit → (ee_sub l % 2 = 0 ∨ ee_sub l = 1) := fun _ => v11
  clear v11 v13 v14
  obtain ⟨e, q, n3, wi, ⟨hps, hbr⟩, lo0, hi0, no, n4, n5, n6, SS2⟩ := B
  have lo : Unit → l < 2 → sd < 2 := fun _ z => lo0 (by omega)
  have hi : Unit → 2 ≤ l → ps = 0 ∧ (sd = 1 ∨ sd = 2) := fun _ z => hi0 (by omega)
  clear lo0 hi0
  rw [show 3 + 2 * l - 1 = 2 + 2 * l by omega] at wi
  rw [show (3 + 2 * l - 3) / 2 = l by omega] at no
  obtain ⟨w1, w2, w3, w4, w5⟩ := wi
  rw [ee_pa_l hl] at Kf Ko
  by_cases op : ee_op l (ee_k tx n p) = 0
  · rw [if_pos op] at Kf Ko
    have nn : ee_no (3 + 2 * l) sd (ee_k tx n p) := by
      have h : l = 0 ∨ l = 1 ∨ l = 2 ∨ l = 3 := by omega
      rcases h with rfl | rfl | rfl | rfl
      · exact ⟨fun _ _ => op, fun z => absurd z (by omega), fun z => absurd z (by omega), fun z => absurd z (by omega)⟩
      · exact ⟨fun _ y => no.1 (by decide) y, fun _ _ => op, fun z => absurd z (by omega), fun z => absurd z (by omega)⟩
      · exact ⟨fun _ y => no.1 (by decide) y, fun _ y => no.2.1 (Or.inr rfl) y, fun _ => op, fun z => absurd z (by omega)⟩
      · exact ⟨fun _ y => no.1 (by decide) y, fun _ y => no.2.1 (Or.inl (by decide)) y, fun _ => no.2.2.1 (by decide), fun _ => op⟩
    exact Ko rfl g i e q ⟨fun z => absurd z (by omega), Nat.le_refl _, n3, n4, n5, n6, sd, fun _ => rfl, fun z => (hi () (by omega)).2, nn, SS2⟩
  · rw [if_neg op] at Kf Ko
    obtain ⟨c, c1, c2, c3, c4, c5, c60, c70, c8, c9, c10, _⟩ := ee_opc op
    have c6 : Unit → l < 2 → c = 1060 ∨ c = 1061 ∨ c = 1070 := fun _ => c60
    have c7 : Unit → 2 ≤ l → c = 1030 ∨ c = 1020 := fun _ => c70
    clear c60 c70
    have S20 := SS2
    obtain ⟨t1, t2, t3, t4, t5, t6⟩ := SS2
    have k2 := t1.1.ko ko
    rw [(ee_nf_n (tx := tx) (p := p) hn).mpr c9] at t2
    obtain ⟨g3, g4⟩ := ee_gt hn t6 c8
    have lq : (q ++ W).length = q.length + W.length := List.length_append
    have lc : (e.reverse ++ C).length = e.length + C.length := by rw [List.length_append, List.length_reverse]
    have hq : ∀ y, y ∈ q → c / 10 ≤ y / 10 ∧ y < 2000 := fun y hy => by have := n4 y hy; omega
    have hW : ∀ y W', W = y :: W' → y / 10 < c / 10 ∧ y < 2000 := fun y W' ew => by
      have := w5 y W' ew
      have := w4 y (by rw [ew]; exact List.mem_cons_self ..)
      omega
    have nt1 : ee_nt (c :: W) = ee_nt W := by
      show (if c = 1040 then 1 else 0) + ee_nt W = ee_nt W
      rw [if_neg c4, Nat.zero_add]
    -- behind the operator
    have go : ∀ (sdn frn : Nat) (g4' : eb_H), (Unit → l < 2 → sdn = sd ∧ frn = 0) → (Unit → 2 ≤ l → sdn = 0 ∧ frn = 1) → ee_SS gB tx n g4' (ee_e tx n p) (q.reverse ++ (e.reverse ++ C)) (c :: W) dp ps br sdn 1 frn (i + 1) → ee_HD d h0 Q x g4' (i + 1) := by
      intro sdn frn g4' a1 a2 S4
      refine IH (ee_sub l) dp (ee_e tx n p) [] (q.reverse ++ (e.reverse ++ C)) (c :: W) ps br sdn frn (i + 1) g4' v10 (by omega) (fun _ => ⟨⟨by show W.length + 1 ≤ _; omega, w2, by rw [nt1]; exact w3, fun y hy => ?_, fun y W' ew => ?_⟩, ⟨hps, hbr⟩, fun z => ?_, fun z => ?_, S4⟩) (fun z => absurd (vev ()) z) (fun y hy g5 i5 => Kf y (ee_bd_f hy) g5 i5) (fun hn1 g5 i5 e2 q2 EN2 => ?_)
      · rcases List.mem_cons.mp hy with z | z
        · rw [z]; omega
        · exact w4 y z
      · cases ew
        omega
      · have l2 := subL () z
        obtain ⟨x1, x2⟩ := a1 () l2
        have l3 := lo () l2
        exact ⟨by omega, by omega, fun u => absurd u (by omega)⟩
      · have l2 := subH () z
        obtain ⟨x1, x2⟩ := a2 () l2
        exact ⟨(hi () l2).1, x1, x2⟩
      · rw [ee_bd_n hn1] at Kf Ko
        generalize (ee_pa tx n tk f (ee_sub l) dp (ee_e tx n p) []).1 = p2 at Kf Ko EN2
        generalize (ee_pa tx n tk f (ee_sub l) dp (ee_e tx n p) []).2.2 = cs2 at Kf Ko EN2
        obtain ⟨m10, m2, m3, m4, m5, m6, sd2, m70, m90, m8, SS3⟩ := EN2
        have m1 := m10 (vev ())
        have m7 : Unit → l < 2 → sd2 = sdn := fun _ z => m70 (lowS () z)
        have m9 : Unit → 2 ≤ l → (sd2 = 1 ∨ sd2 = 2) := fun _ z => m90 (highS () z)
        clear m10 m70 m90
        have pn := SS3.2.2.2.2.2
        have ea : (q2 ++ [c]) ++ W = q2 ++ c :: W := by rw [List.append_assoc]; rfl
        have en : dp + ee_nt (q2 ++ [c]) = dp + ee_nt q2 := by
          rw [ee_nt_app]
          have : ee_nt [c] = 0 := by
            show (if c = 1040 then 1 else 0) + 0 = 0
            rw [if_neg c4]
          omega
        refine IH (3 + 2 * l) dp p2 (acc ++ cs2 ++ [ee_op l (ee_k tx n p)]) C W ps br sd2 0 i5 g5 (by omega) (by omega) (fun z => absurd z (by omega)) (fun _ => ⟨e ++ q ++ e2, q2 ++ [c], ?_, by rw [show 3 + 2 * l - 1 = 2 + 2 * l by omega]; exact ⟨w1, w2, w3, w4, w5⟩, ⟨hps, hbr⟩, fun z => ?_, fun z => ?_, by rw [show (3 + 2 * l - 3) / 2 = l by omega]; exact m8, fun y hy => ?_, by rw [ea, en]; exact m5, by rw [en]; exact m6, ?_⟩) Kf (fun hn2 g6 i6 e3 q3 EN3 => Ko hn2 g6 i6 e3 q3 ?_)
        · rw [List.map_append, List.map_append, n3, m3, List.map_cons, c1, List.map_nil]
          simp only [List.append_assoc]
        · have l2 : l < 2 := by omega
          have y1 := (a1 () l2).1
          have y2 := m7 () l2
          have y3 := lo () l2
          omega
        · have l2 : 2 ≤ l := by omega
          exact ⟨(hi () l2).1, m9 () l2⟩
        · rcases List.mem_append.mp hy with z | z
          · have := m4 y z
            omega
          · rcases List.mem_cons.mp z with u | u
            · rw [u]
              omega
            · exact absurd u (List.not_mem_nil)
        · rw [ea, en, show (e ++ q ++ e2).reverse ++ C = e2.reverse ++ (q.reverse ++ (e.reverse ++ C)) by simp only [List.reverse_append, List.append_assoc]]
          exact SS3
        · obtain ⟨r1, r2, r3, r4, r5, r6, sd3, r7, r9, r8, SS4⟩ := EN3
          have pp : p ≤ (ee_pa tx n tk f (3 + 2 * l) dp p2 (acc ++ cs2 ++ [ee_op l (ee_k tx n p)])).1 := Nat.le_trans (Nat.le_of_lt (Nat.lt_trans g3 m1)) r2
          refine ⟨fun z => absurd z (by clear r7 r9; omega), pp, r3, r4, r5, r6, sd3, fun z => ?_, r9, r8, SS4⟩
          have l2 : l < 2 := by clear r7 r9; omega
          exact ((r7 z).trans (m7 () l2)).trans (a1 () l2).1
    refine S_gen ht hn tk x hx S20 ko c9 (fun z => absurd z.1 c10) ⟨by rcases Nat.lt_or_ge l 2 with z | z; exact (by have := lo () z; omega); exact (by have := (hi () z).2; omega), by omega, by omega, by omega⟩ (fun z => absurd z (by omega)) (fun _ => ?_)
    rw [c2, ee_ci_n c5]
    by_cases l2 : l < 2
    · refine C_j1 (d := d + 3) t3 c (c6 () l2) (lo () l2) hq hW (by omega) (by omega) (by omega) k2 (fun h3 F3 l3 => ⟨_, rfl, F3.ko k2, fun _ => S_ok (C := q.reverse ++ (e.reverse ++ C)) (W := c :: W) (dp := dp) (ps := ps) (br := br) (sd := sd) (wa := 1) (fr := 0) ht hn t1 t2 t6 t5 c8 ko F3 l3 (by show _ + (W.length + 1) ≤ _; rw [List.length_append, List.length_reverse]; omega) (fun g4' S4 => go sd 0 g4' (fun _ _ => ⟨rfl, rfl⟩) (fun _ z => absurd z (by omega)) S4), fun z => absurd z (by decide)⟩)
    · obtain ⟨ps0, sd12⟩ := hi () (by omega)
      subst ps0
      refine C_j3 (d := d + 3) t3 c (c7 () (by omega)) sd12 hq hW (by omega) (by omega) (by omega) k2 (fun h3 F3 l3 => ⟨_, rfl, F3.ko k2, fun _ => S_ok (C := q.reverse ++ (e.reverse ++ C)) (W := c :: W) (dp := dp) (ps := 0) (br := br) (sd := 0) (wa := 1) (fr := 1) ht hn t1 t2 t6 t5 c8 ko F3 l3 (by show _ + (W.length + 1) ≤ _; rw [List.length_append, List.length_reverse]; omega) (fun g4' S4 => go 0 1 g4' (fun _ z => absurd z (by omega)) (fun _ _ => ⟨rfl, rfl⟩) S4), fun z => absurd z (by decide)⟩)
/-- all of it -/
theorem ee_sim {d : Nat} {h0 gB : eb_H} {Q : Option Value → eb_H → Prop} {tx : Nat → Nat} {n : Nat} (ht : ∀ j, j < n → tx j < 256) (hn : n ≤ 900) (tk : Bool) (x : Int32) (hx : x = 0 ↔ ¬ tk = true) (ko : eb_KO gB) : ∀ f, ee_Sim d h0 gB Q tx n tk x f
  | 0 => fun m dp p acc C W ps br sd fr i g _ h => absurd h (by omega)
  | f + 1 => by
    have IH := ee_sim (d := d) (h0 := h0) (Q := Q) ht hn tk x hx ko f
    intro m dp p acc C W ps br sd fr i g hm fu B0 B1 Kf Ko
    by_cases m0 : m = 0
    · subst m0
      exact ee_simA ht hn tk x hx ko IH dp p acc C W ps br sd fr i fu (B0 (Or.inl rfl)) Kf Ko
    · by_cases m1 : m = 1
      · subst m1
        exact ee_simU ht hn tk x hx ko IH dp p acc C W ps br sd fr i fu (B0 (Or.inr rfl)) Kf Ko
      · by_cases ev : m % 2 = 0
        · obtain ⟨l, rfl⟩ : ∃ l, m = 2 + 2 * l := ⟨(m - 2) / 2, by omega⟩
          exact ee_simC ht hn tk x hx ko IH l (by omega) dp p acc C W ps br sd fr i fu (B0 (Or.inl ev)) Kf Ko
        · obtain ⟨l, rfl⟩ : ∃ l, m = 3 + 2 * l := ⟨(m - 3) / 2, by omega⟩
          have v8 := (ee_lv l (by omega)).2.2.2.2.2.2.2.1
          exact ee_simL ht hn tk x hx ko IH l (by omega) dp p acc C W ps br sd i (by omega) (B1 (by omega)) Kf Ko
end EBSIMB
