section EBSOUND
variable {L : Nat} {xs : Nat → Int32}
/-! ===== what stands in a draft is within its bounds ===== -/
theorem ee_pa_lt {tx : Nat → Nat} {n : Nat} (tk : Bool) (hn : n ≤ 900) : ∀ fu m dp p acc, m ≤ 9 → (m % 2 = 1 → m ≠ 1 → ∀ c, c ∈ acc → c < 4000) → (ee_pa tx n tk fu m dp p acc).2.1 = none → ∀ c, c ∈ (ee_pa tx n tk fu m dp p acc).2.2 → c < 4000
  | 0 => fun m dp p acc _ _ h => by cases h
  | fu + 1 => by
    have IH := ee_pa_lt (tx := tx) tk hn fu
    intro m dp p acc hm hA h
    by_cases m0 : m = 0
    · subst m0
      rw [ee_pa_0] at h ⊢
      by_cases k23 : ee_k tx n p = 23
      · rw [if_pos k23]
        intro c hc
        have hc : c ∈ [ee_v tx n p] := hc
        rw [List.mem_singleton.mp hc]
        have := ee_v_lt hn k23
        omega
      · rw [if_neg k23] at h ⊢
        by_cases kw : ee_wd tk (ee_k tx n p) < 9
        · rw [if_pos kw]
          intro c hc
          have hc : c ∈ [1000 + ee_wd tk (ee_k tx n p)] := hc
          rw [List.mem_singleton.mp hc]
          omega
        · rw [if_neg kw] at h ⊢
          by_cases k35 : ee_k tx n p = 35
          · rw [if_pos k35] at h ⊢
            by_cases d6 : dp = 6
            · rw [if_pos d6] at h; cases h
            · rw [if_neg d6] at h ⊢
              obtain ⟨x1, x2⟩ := ee_bd_i h
              rw [x2] at h ⊢
              have y3 := IH 4 (dp + 1) (ee_e tx n p) [] (by omega) (fun z _ => absurd z (by decide)) x1
              generalize (ee_pa tx n tk fu 4 (dp + 1) (ee_e tx n p) []).1 = p1 at h ⊢
              generalize (ee_pa tx n tk fu 4 (dp + 1) (ee_e tx n p) []).2.2 = cs at h y3 ⊢
              by_cases k36 : ee_k tx n p1 = 36
              · rw [if_pos k36]
                exact y3
              · rw [if_neg k36] at h; cases h
          · rw [if_neg k35] at h; cases h
    · by_cases m1 : m = 1
      · subst m1
        rw [ee_pa_1] at h ⊢
        by_cases k16 : ee_k tx n p = 16
        · rw [if_pos k16] at h ⊢
          by_cases d6 : dp = 6
          · rw [if_pos d6] at h; cases h
          · rw [if_neg d6] at h ⊢
            obtain ⟨x1, x2⟩ := ee_bd_i h
            rw [x2]
            have y3 := IH 1 (dp + 1) (ee_e tx n p) [] (by omega) (fun _ z => absurd rfl z) x1
            intro c hc
            have hc : c ∈ (ee_pa tx n tk fu 1 (dp + 1) (ee_e tx n p) []).2.2 ++ [3006] := hc
            rcases List.mem_append.mp hc with hc | hc
            · exact y3 c hc
            · rw [List.mem_singleton.mp hc]; decide
        · rw [if_neg k16] at h ⊢
          by_cases k37 : ee_k tx n p = 37
          · rw [if_pos k37] at h ⊢
            by_cases d6 : dp = 6
            · rw [if_pos d6] at h; cases h
            · rw [if_neg d6] at h ⊢
              obtain ⟨x1, x2⟩ := ee_bd_i h
              rw [x2] at h ⊢
              have y3 := IH 8 (dp + 1) (ee_e tx n p) [] (by omega) (fun z _ => absurd z (by decide)) x1
              generalize (ee_pa tx n tk fu 8 (dp + 1) (ee_e tx n p) []).1 = p1 at h ⊢
              generalize (ee_pa tx n tk fu 8 (dp + 1) (ee_e tx n p) []).2.2 = cs at h y3 ⊢
              by_cases k38 : ee_k tx n p1 = 38
              · rw [if_pos k38]
                exact y3
              · rw [if_neg k38] at h; cases h
          · rw [if_neg k37] at h ⊢
            obtain ⟨x1, x2⟩ := ee_bd_i h
            rw [x2] at h ⊢
            have y5 := IH 4 dp p [] (by omega) (fun z _ => absurd z (by decide)) x1
            generalize (ee_pa tx n tk fu 4 dp p []).1 = p1 at h ⊢
            generalize (ee_pa tx n tk fu 4 dp p []).2.2 = c1 at h y5 ⊢
            by_cases kc : 39 ≤ ee_k tx n p1 ∧ ee_k tx n p1 ≤ 41
            · rw [if_pos kc] at h ⊢
              obtain ⟨x3, x4⟩ := ee_bd_i h
              rw [x4]
              have y6 := IH 4 dp (ee_e tx n p1) [] (by omega) (fun z _ => absurd z (by decide)) x3
              intro c hc
              have hc : c ∈ c1 ++ (ee_pa tx n tk fu 4 dp (ee_e tx n p1) []).2.2 ++ [3003 + (ee_k tx n p1 - 39)] := hc
              rcases List.mem_append.mp hc with hc | hc
              · rcases List.mem_append.mp hc with hc | hc
                · exact y5 c hc
                · exact y6 c hc
              · rw [List.mem_singleton.mp hc]; omega
            · rw [if_neg kc] at h; cases h
      · by_cases ev : m % 2 = 0
        · obtain ⟨l, rfl⟩ : ∃ l, m = 2 + 2 * l := ⟨(m - 2) / 2, by omega⟩
          have hl : l < 4 := by omega
          obtain ⟨v1, v2, v3, v4, v5, v6⟩ := ee_lvw l hl
          rw [ee_pa_c hl] at h ⊢
          obtain ⟨x1, x2⟩ := ee_bd_i h
          rw [x2] at h ⊢
          have y5 := IH (ee_sub l) dp p [] v5 (fun z u => absurd (v6 z) u) x1
          exact IH (3 + 2 * l) dp _ _ (by omega) (fun _ _ => y5) h
        · obtain ⟨l, rfl⟩ : ∃ l, m = 3 + 2 * l := ⟨(m - 3) / 2, by omega⟩
          have hl : l < 4 := by omega
          obtain ⟨v1, v2, v3, v4, v5, v6⟩ := ee_lvw l hl
          have hA := hA (by omega) (by omega)
          rw [ee_pa_l hl] at h ⊢
          by_cases op : ee_op l (ee_k tx n p) = 0
          · rw [if_pos op]
            exact hA
          · rw [if_neg op] at h ⊢
            obtain ⟨x1, x2⟩ := ee_bd_i h
            rw [x2] at h ⊢
            have y5 := IH (ee_sub l) dp (ee_e tx n p) [] v5 (fun z u => absurd (v6 z) u) x1
            refine IH (3 + 2 * l) dp _ _ (by omega) (fun _ _ c hc => ?_) h
            rcases List.mem_append.mp hc with hc | hc
            · rcases List.mem_append.mp hc with hc | hc
              · exact hA c hc
              · exact y5 c hc
            · rw [List.mem_singleton.mp hc]
              unfold ee_op
              repeat' split
              all_goals omega
theorem ee_law0_lt {tx : Nat → Nat} {n : Nat} (tk : Bool) (hn : n ≤ 900) {p : Nat} (h : (ee_law0 tx n tk p).2.1 = none) : ∀ c, c ∈ (ee_law0 tx n tk p).2.2 → c < 4000 := by
  unfold ee_law0 at h ⊢
  by_cases z : ee_k tx n (ee_e tx n p) = 31
  · rw [if_pos z] at h ⊢
    exact ee_pa_lt (tx := tx) tk hn 10000 8 0 _ [] (by omega) (fun z _ => absurd z (by decide)) h
  · rw [if_neg z] at h
    cases h
def ee_B (a b j : Nat) : Nat := if j < 27 then 10 else if j < 32 then a * b else if j = 32 then 64 else if j = 33 then 1 else if j < 50 then 7 else if j = 50 then 65536 else if j = 51 then 10 else 1
def ee_ol (o : Option (List Nat)) : Prop := ∀ cs, o = some cs → eb_okL (some (cs.map nI)) ∧ ∀ c, c ∈ cs → c < 4000
def ee_sd (D : ee_D) (a b : Nat) : Prop := (∀ j, 11 ≤ j → j < 53 → ∃ x, x < ee_B a b j ∧ D.1 j = nI x) ∧ ee_ol D.2.2.1 ∧ ee_ol D.2.2.2
theorem ee_sd.set {D : ee_D} {a b j : Nat} {y : Int32} (d : ee_sd D a b) (hy : 11 ≤ j → ∃ x, x < ee_B a b j ∧ y = nI x) : ee_sd (ee_set D j y) a b := by
  refine ⟨fun i h1 h2 => ?_, d.2⟩
  show ∃ x, x < ee_B a b i ∧ (if i = j then y else D.1 i) = nI x
  by_cases e : i = j
  · rw [if_pos e, e]
    exact hy (by omega)
  · rw [if_neg e]
    exact d.1 i h1 h2
theorem ee_sh : ∀ c, c < 16 → (1 : Int32) <<< (nI c &&& 31) = nI (2 ^ c) := by decide +kernel
theorem ee_dri {x c : Nat} (hx : x < 65536) (hc : c < 16) : nI x ||| ((1 : Int32) <<< (nI c &&& 31)) = nI (x ||| 2 ^ c) ∧ (x ||| 2 ^ c) < 65536 := by
  have h2 : (2 : Nat) ^ c < 2 ^ 16 := wb_lt2 hc
  have h3 : (2 : Nat) ^ 16 = 65536 := by decide
  have h4 : (2 : Nat) ^ 32 = 4294967296 := by decide
  refine ⟨?_, Nat.or_lt_two_pow (n := 16) hx h2⟩
  rw [ee_sh c hc]
  exact ec_or (by omega) (by omega)
theorem ee_sd_rowl {tx : Nat → Nat} {n a b o e : Nat} (ho : o + e ≤ 16) : ∀ (k i p : Nat) (D : ee_D), i + k = e → ee_sd D a b → (ee_rowl tx n o k i p D).2.1 = none → ee_sd (ee_rowl tx n o k i p D).2.2 a b
  | 0, i, p, D, _, d, _ => d
  | k + 1, i, p, D, hi, d, h => by
    unfold ee_rowl at h ⊢
    obtain ⟨ok, e⟩ := ee_nb_n h
    rw [e] at h ⊢
    refine ee_sd_rowl ho k (i + 1) _ _ (by omega) (d.set (fun _ => ⟨_, ?_, rfl⟩)) h
    have := ok.2.2
    unfold ee_B
    rw [if_pos (by omega)]
    omega
theorem ee_sd_batl {tx : Nat → Nat} {n a b c : Nat} : ∀ (f p e : Nat) (D : ee_D), e < 64 → ee_sd D a b → (ee_batl tx n c f p e D).2.1 = none → ee_sd (ee_batl tx n c f p e D).2.2 a b
  | 0, p, e, D, _, d, h => by cases h
  | f + 1, p, e, D, he, d, h => by
    unfold ee_batl at h ⊢
    by_cases z : ee_k tx n p = 23
    · rw [if_pos z] at h ⊢
      by_cases z2 : ee_ok tx n p 1 6
      · rw [if_pos z2] at h ⊢
        by_cases z3 : e / 2 ^ (ee_v tx n p - 1) % 2 = 0 ∧ ec_bc e = c
        · rw [if_pos z3] at h; cases h
        · rw [if_neg z3] at h ⊢
          have v6 := z2.2.2
          exact ee_sd_batl f _ _ D (ee_orb e he (ee_v tx n p - 1) (by omega)).2 d h
      · rw [if_neg z2] at h; cases h
    · rw [if_neg z]
      exact d.set (fun _ => ⟨e, he, rfl⟩)
theorem ee_sd_lnE {tx : Nat → Nat} {n p a b c s : Nat} {D : ee_D} (hn : n ≤ 900) (dw : ee_DW D a b c s) (d : ee_sd D a b) (h : (ee_lnE tx n p a b c s D).2.1 = none) : ee_sd (ee_lnE tx n p a b c s D).2.2 a b := by
  obtain ⟨w1, w2, w3, w4⟩ := dw
  obtain ⟨r1, r2⟩ := ee_rc w1.2 w2.2
  have ab : 1 ≤ a * b := Nat.mul_le_mul w1.2.1 w2.2.1
  have gen : ∀ r, ee_line tx n p a b c s D = r → (r.2.1 = none → ee_sd r.2.2 a b) → ee_sd (ee_lnE tx n p a b c s D).2.2 a b := fun r er hr => by
    unfold ee_lnE at h ⊢
    rw [er] at h ⊢
    cases hl : r.2.1 with
    | some y => rw [ee_rb_f hl] at h; cases h
    | none =>
      rw [ee_rb_n hl] at h ⊢
      obtain ⟨k30, e⟩ := ee_end_n h
      rw [e]
      exact (hr hl).set (fun z => absurd z (by omega))
  have law : ∀ tk, ee_line tx n p a b c s D = ee_llaw tx n tk p D → ee_sd (ee_lnE tx n p a b c s D).2.2 a b := fun tk el => by
    cases hl : (ee_law tx n tk p).2.1 with
    | some y => rw [ee_lnE_lawf el hl] at h; cases h
    | none =>
      obtain ⟨l1, l2, l3⟩ := ee_lnE_lawo el hl
      have ok := ee_law_ok tk hn p hl
      have lt := ee_law0_lt tk hn l1
      rw [← l2] at lt
      rw [l3] at h ⊢
      obtain ⟨k30, e⟩ := ee_end_n h
      rw [e]
      refine ee_sd.set ?_ (fun z => absurd z (by omega))
      have new : ee_ol (some (ee_law tx n tk p).2.2) := fun cs ec => by cases ec; exact ⟨ok, lt⟩
      cases tk
      · exact ⟨d.1, new, d.2.2⟩
      · exact ⟨d.1, d.2.1, new⟩
  have el : ee_line tx n p a b c s D = (if ee_k tx n p = 2 then ee_lrow tx n p a b D else if ee_k tx n p = 3 then ee_lthing tx n p a b D else if ee_k tx n p = 4 then ee_ldrift tx n p a b D else if ee_k tx n p = 5 then ee_lhouse tx n p a b s D else if ee_k tx n p = 6 then ee_lwind tx n p D else if ee_k tx n p = 7 then ee_lbat tx n p a b c D else if ee_k tx n p = 8 then ee_llaw tx n false p D else if ee_k tx n p = 9 then ee_llaw tx n true p D else (p, some (ee_fa tx n p 2), D)) := rfl
  by_cases k2 : ee_k tx n p = 2
  · rw [if_pos k2] at el
    refine gen _ el (fun hl => ?_)
    unfold ee_lrow at hl ⊢
    obtain ⟨ok, e⟩ := ee_nb_n hl
    rw [e] at hl ⊢
    have vb := ok.2.2
    refine ee_sd_rowl (e := b) ?_ b 0 _ D (by omega) d hl
    have : b * ee_v tx n (ee_e tx n p) ≤ b * 3 := Nat.mul_le_mul_left b (by omega)
    omega
  rw [if_neg k2] at el
  by_cases k3 : ee_k tx n p = 3
  · rw [if_pos k3] at el
    refine gen _ el (fun hl => ?_)
    unfold ee_lthing at hl ⊢
    obtain ⟨ok, e⟩ := ee_nb_n hl
    rw [e] at hl ⊢
    obtain ⟨ok2, e2⟩ := ee_nb_n hl
    rw [e2]
    have vb := ok.2.2
    have vc := ok2.2.2
    refine d.set (fun _ => ⟨_, ?_, rfl⟩)
    unfold ee_B
    rw [if_neg (by omega), if_neg (by omega), if_neg (by omega), if_neg (by omega), if_pos (by omega)]
    omega
  rw [if_neg k3] at el
  by_cases k4 : ee_k tx n p = 4
  · rw [if_pos k4] at el
    refine gen _ el (fun hl => ?_)
    unfold ee_ldrift at hl ⊢
    obtain ⟨ok, e⟩ := ee_nb_n hl
    rw [e]
    have vb := ok.2.2
    obtain ⟨x, x1, x2⟩ := d.1 50 (by decide) (by decide)
    have x1 : x < 65536 := x1
    obtain ⟨y1, y2⟩ := ee_dri (c := ee_v tx n (ee_e tx n p)) x1 (by omega)
    refine d.set (fun _ => ⟨_, y2, ?_⟩)
    rw [x2]
    exact y1
  rw [if_neg k4] at el
  by_cases k5 : ee_k tx n p = 5
  · rw [if_pos k5] at el
    refine gen _ el (fun hl => ?_)
    unfold ee_lhouse at hl ⊢
    by_cases s4 : s = 4
    · rw [if_pos s4] at hl; cases hl
    · rw [if_neg s4] at hl ⊢
      obtain ⟨ok, e⟩ := ee_nb_n hl
      rw [e]
      have vb := ok.2.2
      have sl := w4.2
      refine (d.set (fun _ => ⟨_, ?_, rfl⟩)).set (fun z => absurd z (by omega))
      unfold ee_B
      rw [if_neg (by omega), if_pos (by omega)]
      omega
  rw [if_neg k5] at el
  by_cases k6 : ee_k tx n p = 6
  · rw [if_pos k6] at el
    refine gen _ el (fun hl => ?_)
    unfold ee_lwind at hl ⊢
    obtain ⟨ok, e⟩ := ee_nb_n hl
    rw [e]
    have vb := ok.2.2
    refine d.set (fun _ => ⟨_, ?_, rfl⟩)
    show _ < 10
    omega
  rw [if_neg k6] at el
  by_cases k7 : ee_k tx n p = 7
  · rw [if_pos k7] at el
    refine gen _ el (fun hl => ?_)
    unfold ee_lbat at hl ⊢
    obtain ⟨ok, e⟩ := ee_nb_n hl
    rw [e] at hl ⊢
    have vb := ok.2.2
    refine ee_sd_batl 1000 _ 0 _ (by decide) (d.set (fun _ => ⟨_, ?_, rfl⟩)) hl
    show _ < a * b
    omega
  rw [if_neg k7] at el
  by_cases k8 : ee_k tx n p = 8
  · rw [if_pos k8] at el
    exact law false el
  rw [if_neg k8] at el
  by_cases k9 : ee_k tx n p = 9
  · rw [if_pos k9] at el
    exact law true el
  rw [if_neg k9] at el
  exact gen _ el (fun hl => by cases hl)
theorem ee_sd_lns {tx : Nat → Nat} {n a b c : Nat} (hn : n ≤ 900) : ∀ (f p s : Nat) (D : ee_D), p ≤ n → ee_DW D a b c s → ee_sd D a b → (ee_lns tx n a b c f p D).2.1 = none → (∃ s', ee_DW (ee_lns tx n a b c f p D).2.2 a b c s') ∧ ee_sd (ee_lns tx n a b c f p D).2.2 a b
  | 0, p, s, D, _, _, _, h => by cases h
  | f + 1, p, s, D, hp, dw, d, h => by
    unfold ee_lns at h ⊢
    by_cases k24 : ee_k tx n p = 24
    · rw [if_pos k24]
      exact ⟨⟨s, dw⟩, d⟩
    · rw [if_neg k24, dw.s, ee_rb_rb] at h ⊢
      change (ee_rb (ee_lnE tx n p a b c s D) (fun p2 D2 => ee_lns tx n a b c f p2 D2)).2.1 = none at h
      show (∃ s', ee_DW (ee_rb (ee_lnE tx n p a b c s D) (fun p2 D2 => ee_lns tx n a b c f p2 D2)).2.2 a b c s') ∧ ee_sd (ee_rb (ee_lnE tx n p a b c s D) (fun p2 D2 => ee_lns tx n a b c f p2 D2)).2.2 a b
      cases hl : (ee_lnE tx n p a b c s D).2.1 with
      | some y => rw [ee_rb_f hl] at h; cases h
      | none =>
        rw [ee_rb_n hl] at h ⊢
        obtain ⟨g1, g2, s', g3⟩ := ee_lnE_ge hn hp dw hl
        exact ee_sd_lns hn f _ s' _ g2 g3 (ee_sd_lnE hn dw d hl) h
theorem ee_sd_opn {tx : Nat → Nat} {n a b : Nat} (h : (ee_opn tx n).2.1 = none) (ha : 1 ≤ a) (hb : 1 ≤ b) : ee_sd (ee_opn tx n).2.2 a b := by
  have ab : 1 ≤ a * b := Nat.mul_le_mul ha hb
  have d0 : ee_sd ee_D0 a b := by
    refine ⟨fun j h1 h2 => ⟨0, ?_, ?_⟩, (fun cs e => nomatch e), (fun cs e => nomatch e)⟩
    · unfold ee_B
      repeat' split
      all_goals omega
    · show (if j = 3 then (3 : Int32) else if j = 2 then 1 else if j = 1 then 1 else 0) = nI 0
      rw [if_neg (by omega), if_neg (by omega), if_neg (by omega)]
      rfl
  unfold ee_opn at h ⊢
  by_cases k0 : ee_k tx n 0 = 0
  · rw [if_pos k0] at h ⊢
    obtain ⟨o1, e1⟩ := ee_nb_n h
    rw [e1] at h ⊢
    try dsimp only at h ⊢
    obtain ⟨o2, e2⟩ := ee_nb_n h
    rw [e2] at h ⊢
    try dsimp only at h ⊢
    generalize ee_e tx n (ee_e tx n (ee_e tx n 0)) = p3 at h ⊢
    by_cases k1 : ee_k tx n p3 = 1
    · rw [if_pos k1] at h ⊢
      obtain ⟨o3, e3⟩ := ee_nb_n h
      rw [e3] at h ⊢
      try dsimp only at h ⊢
      obtain ⟨k30, e4⟩ := ee_end_n h
      rw [e4]
      exact (((d0.set (fun z => absurd z (by omega))).set (fun z => absurd z (by omega))).set (fun z => absurd z (by omega))).set (fun z => absurd z (by omega))
    · rw [if_neg k1] at h
      cases h
  · rw [if_neg k0] at h
    cases h
theorem ee_sd_text {tx : Nat → Nat} {n : Nat} (hn : n ≤ 900) (h : (ee_text tx n).2.1 = none) : ∃ a b c s, ee_DW (ee_text tx n).2.2 a b c s ∧ ee_sd (ee_text tx n).2.2 a b := by
  unfold ee_text at h ⊢
  cases ho : (ee_opn tx n).2.1 with
  | some y => rw [ee_rb_f ho] at h; cases h
  | none =>
    obtain ⟨w1, a, b, c, dw⟩ := ee_opn_dw hn ho
    obtain ⟨ea, eb, ec⟩ := dw.abc
    rw [ee_rb_n ho, ea, eb, ec] at h ⊢
    obtain ⟨⟨s', g1⟩, g2⟩ := ee_sd_lns hn 1000 _ 0 _ w1 dw (ee_sd_opn ho dw.1.2.1 dw.2.1.2.1) h
    exact ⟨a, b, c, s', g1, g2⟩
end EBSOUND
