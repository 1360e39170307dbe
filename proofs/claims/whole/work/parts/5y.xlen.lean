section EBXLEN
variable {L : Nat} {xs : Nat → Int32}
/-- a law has no more codes than letters -/
theorem ee_pa_len {tx : Nat → Nat} {n : Nat} (tk : Bool) (hn : n ≤ 900) : ∀ fu m dp p acc A, m ≤ 9 → p ≤ n → (m % 2 = 1 → m ≠ 1 → acc.length ≤ A) → (ee_pa tx n tk fu m dp p acc).2.1 = none → (ee_pa tx n tk fu m dp p acc).2.2.length + p ≤ A + (ee_pa tx n tk fu m dp p acc).1
  | 0 => fun m dp p acc _ _ _ _ h => by cases h
  | fu + 1 => by
    have IH := ee_pa_len (tx := tx) tk hn fu
    have MO := ee_pa_mono (tx := tx) tk hn fu
    intro m dp p acc A hm hp hA h
    obtain ⟨e1, e2, e3, e4⟩ := ee_e_le tx hn hp
    by_cases m0 : m = 0
    · subst m0
      rw [ee_pa_0] at h ⊢
      by_cases k23 : ee_k tx n p = 23
      · rw [if_pos k23]
        have g := (ee_gt hn hp (show ee_k tx n p ≠ 24 by omega)).1
        show 1 + p ≤ A + ee_e tx n p
        omega
      · rw [if_neg k23] at h ⊢
        by_cases kw : ee_wd tk (ee_k tx n p) < 9
        · rw [if_pos kw]
          have g := (ee_gt hn hp (fun z => by rw [z] at kw; cases tk <;> exact absurd kw (by decide))).1
          show 1 + p ≤ A + ee_e tx n p
          omega
        · rw [if_neg kw] at h ⊢
          by_cases k35 : ee_k tx n p = 35
          · rw [if_pos k35] at h ⊢
            by_cases d6 : dp = 6
            · rw [if_pos d6] at h; cases h
            · rw [if_neg d6] at h ⊢
              obtain ⟨x1, x2⟩ := ee_bd_i h
              rw [x2] at h ⊢
              have y3 := IH 4 (dp + 1) (ee_e tx n p) [] 0 (by omega) e1 (fun z _ => absurd z (by decide)) x1
              obtain ⟨y1, y2⟩ := MO 4 (dp + 1) (ee_e tx n p) [] (by omega) e1 x1
              generalize (ee_pa tx n tk fu 4 (dp + 1) (ee_e tx n p) []).1 = p1 at h y1 y2 y3 ⊢
              generalize (ee_pa tx n tk fu 4 (dp + 1) (ee_e tx n p) []).2.2 = cs at h y3 ⊢
              by_cases k36 : ee_k tx n p1 = 36
              · rw [if_pos k36]
                obtain ⟨z1, z2, z3, z4⟩ := ee_e_le tx hn y2
                show cs.length + p ≤ A + ee_e tx n p1
                omega
              · rw [if_neg k36] at h; cases h
          · rw [if_neg k35] at h; cases h
    · by_cases m1 : m = 1
      · subst m1
        rw [ee_pa_1] at h ⊢
        by_cases k16 : ee_k tx n p = 16
        · rw [if_pos k16] at h ⊢
          have g := (ee_gt hn hp (show ee_k tx n p ≠ 24 by omega)).1
          by_cases d6 : dp = 6
          · rw [if_pos d6] at h; cases h
          · rw [if_neg d6] at h ⊢
            obtain ⟨x1, x2⟩ := ee_bd_i h
            rw [x2]
            have y3 := IH 1 (dp + 1) (ee_e tx n p) [] 0 (by omega) e1 (fun _ z => absurd rfl z) x1
            generalize (ee_pa tx n tk fu 1 (dp + 1) (ee_e tx n p) []).1 = p1 at y3 ⊢
            generalize (ee_pa tx n tk fu 1 (dp + 1) (ee_e tx n p) []).2.2 = cs at y3 ⊢
            show (cs ++ [3006]).length + p ≤ A + p1
            rw [List.length_append]
            show cs.length + 1 + p ≤ _
            omega
        · rw [if_neg k16] at h ⊢
          by_cases k37 : ee_k tx n p = 37
          · rw [if_pos k37] at h ⊢
            by_cases d6 : dp = 6
            · rw [if_pos d6] at h; cases h
            · rw [if_neg d6] at h ⊢
              obtain ⟨x1, x2⟩ := ee_bd_i h
              rw [x2] at h ⊢
              have y3 := IH 8 (dp + 1) (ee_e tx n p) [] 0 (by omega) e1 (fun z _ => absurd z (by decide)) x1
              obtain ⟨y1, y2⟩ := MO 8 (dp + 1) (ee_e tx n p) [] (by omega) e1 x1
              generalize (ee_pa tx n tk fu 8 (dp + 1) (ee_e tx n p) []).1 = p1 at h y1 y2 y3 ⊢
              generalize (ee_pa tx n tk fu 8 (dp + 1) (ee_e tx n p) []).2.2 = cs at h y3 ⊢
              by_cases k38 : ee_k tx n p1 = 38
              · rw [if_pos k38]
                obtain ⟨z1, z2, z3, z4⟩ := ee_e_le tx hn y2
                show cs.length + p ≤ A + ee_e tx n p1
                omega
              · rw [if_neg k38] at h; cases h
          · rw [if_neg k37] at h ⊢
            obtain ⟨x1, x2⟩ := ee_bd_i h
            rw [x2] at h ⊢
            have y5 := IH 4 dp p [] 0 (by omega) hp (fun z _ => absurd z (by decide)) x1
            obtain ⟨y1, y2⟩ := MO 4 dp p [] (by omega) hp x1
            generalize (ee_pa tx n tk fu 4 dp p []).1 = p1 at h y1 y2 y5 ⊢
            generalize (ee_pa tx n tk fu 4 dp p []).2.2 = c1 at h y5 ⊢
            by_cases kc : 39 ≤ ee_k tx n p1 ∧ ee_k tx n p1 ≤ 41
            · rw [if_pos kc] at h ⊢
              obtain ⟨x3, x4⟩ := ee_bd_i h
              rw [x4]
              obtain ⟨z1, z2⟩ := ee_gt hn y2 (show ee_k tx n p1 ≠ 24 by omega)
              have y6 := IH 4 dp (ee_e tx n p1) [] 0 (by omega) z2 (fun z _ => absurd z (by decide)) x3
              generalize (ee_pa tx n tk fu 4 dp (ee_e tx n p1) []).1 = p2 at y6 ⊢
              generalize (ee_pa tx n tk fu 4 dp (ee_e tx n p1) []).2.2 = c2 at y6 ⊢
              show (c1 ++ c2 ++ [3003 + (ee_k tx n p1 - 39)]).length + p ≤ A + p2
              rw [List.length_append, List.length_append]
              show c1.length + c2.length + 1 + p ≤ _
              omega
            · rw [if_neg kc] at h; cases h
      · by_cases ev : m % 2 = 0
        · obtain ⟨l, rfl⟩ : ∃ l, m = 2 + 2 * l := ⟨(m - 2) / 2, by omega⟩
          have hl : l < 4 := by omega
          obtain ⟨v1, v2, v3, v4, v5, v6⟩ := ee_lvw l hl
          rw [ee_pa_c hl] at h ⊢
          obtain ⟨x1, x2⟩ := ee_bd_i h
          rw [x2] at h ⊢
          have y5 := IH (ee_sub l) dp p [] 0 v5 hp (fun z u => absurd (v6 z) u) x1
          obtain ⟨y1, y2⟩ := MO (ee_sub l) dp p [] v5 hp x1
          have y6 := IH (3 + 2 * l) dp _ _ _ (by omega) y2 (fun _ _ => Nat.le_refl _) h
          omega
        · obtain ⟨l, rfl⟩ : ∃ l, m = 3 + 2 * l := ⟨(m - 3) / 2, by omega⟩
          have hl : l < 4 := by omega
          obtain ⟨v1, v2, v3, v4, v5, v6⟩ := ee_lvw l hl
          have hA := hA (by omega) (by omega)
          rw [ee_pa_l hl] at h ⊢
          by_cases op : ee_op l (ee_k tx n p) = 0
          · rw [if_pos op]
            show acc.length + p ≤ A + p
            omega
          · rw [if_neg op] at h ⊢
            have g := (ee_gt hn hp (fun z => op (by rw [z]; unfold ee_op; simp))).1
            obtain ⟨x1, x2⟩ := ee_bd_i h
            rw [x2] at h ⊢
            have y5 := IH (ee_sub l) dp (ee_e tx n p) [] 0 v5 e1 (fun z u => absurd (v6 z) u) x1
            obtain ⟨y1, y2⟩ := MO (ee_sub l) dp (ee_e tx n p) [] v5 e1 x1
            have y6 := IH (3 + 2 * l) dp _ _ _ (by omega) y2 (fun _ _ => Nat.le_refl _) h
            rw [List.length_append, List.length_append] at y6
            have y6 := Nat.le_trans y6 (show _ ≤ acc.length + (ee_pa tx n tk fu (ee_sub l) dp (ee_e tx n p) []).2.2.length + 1 + _ from Nat.le_refl _)
            omega
theorem ee_law0_len {tx : Nat → Nat} {n : Nat} (tk : Bool) (hn : n ≤ 900) {p : Nat} (hp : p ≤ n) (h : (ee_law0 tx n tk p).2.1 = none) : (ee_law0 tx n tk p).2.2.length + p ≤ (ee_law0 tx n tk p).1 := by
  obtain ⟨e1, e2, e3, e4⟩ := ee_e_le tx hn hp
  unfold ee_law0 at h ⊢
  by_cases z : ee_k tx n (ee_e tx n p) = 31
  · rw [if_pos z] at h ⊢
    obtain ⟨f1, f2, f3, f4⟩ := ee_e_le tx hn e1
    have := ee_pa_len (tx := tx) tk hn 10000 8 0 _ [] 0 (by omega) f1 (fun z _ => absurd z (by decide)) h
    omega
  · rw [if_neg z] at h
    cases h
end EBXLEN
