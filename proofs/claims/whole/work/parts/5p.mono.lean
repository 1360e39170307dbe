section EBMONO
variable {L : Nat} {xs : Nat → Int32}
theorem ee_pa_mono {tx : Nat → Nat} {n : Nat} (tk : Bool) (hn : n ≤ 900) : ∀ fu m dp p acc, m ≤ 9 → p ≤ n → (ee_pa tx n tk fu m dp p acc).2.1 = none → p ≤ (ee_pa tx n tk fu m dp p acc).1 ∧ (ee_pa tx n tk fu m dp p acc).1 ≤ n
  | 0 => fun m dp p acc _ _ h => by cases h
  | fu + 1 => by
    have IH := ee_pa_mono (tx := tx) tk hn fu
    intro m dp p acc hm hp h
    obtain ⟨e1, e2, e3, e4⟩ := ee_e_le tx hn hp
    have pe : p ≤ ee_e tx n p := Nat.le_trans e2 e4
    by_cases m0 : m = 0
    · subst m0
      rw [ee_pa_0] at h ⊢
      by_cases k23 : ee_k tx n p = 23
      · rw [if_pos k23]; exact ⟨pe, e1⟩
      · rw [if_neg k23] at h ⊢
        by_cases kw : ee_wd tk (ee_k tx n p) < 9
        · rw [if_pos kw]; exact ⟨pe, e1⟩
        · rw [if_neg kw] at h ⊢
          by_cases k35 : ee_k tx n p = 35
          · rw [if_pos k35] at h ⊢
            by_cases d6 : dp = 6
            · rw [if_pos d6] at h; cases h
            · rw [if_neg d6] at h ⊢
              obtain ⟨x1, x2⟩ := ee_bd_i h
              rw [x2] at h ⊢
              obtain ⟨y1, y2⟩ := IH 4 (dp + 1) (ee_e tx n p) [] (by omega) e1 x1
              generalize (ee_pa tx n tk fu 4 (dp + 1) (ee_e tx n p) []).1 = p1 at h y1 y2 ⊢
              by_cases k36 : ee_k tx n p1 = 36
              · rw [if_pos k36]
                obtain ⟨z1, z2, z3, z4⟩ := ee_e_le tx hn y2
                exact ⟨by show p ≤ ee_e tx n p1; omega, z1⟩
              · rw [if_neg k36] at h; cases h
          · rw [if_neg k35] at h; cases h
    · by_cases m1 : m = 1
      · subst m1
        rw [ee_pa_1] at h ⊢
        by_cases k16 : ee_k tx n p = 16
        · rw [if_pos k16] at h ⊢
          by_cases d6 : dp = 6
          · rw [if_pos d6] at h; cases h
          · rw [if_neg d6] at h ⊢
            obtain ⟨x1, x2⟩ := ee_bd_i h
            rw [x2]
            obtain ⟨y1, y2⟩ := IH 1 (dp + 1) (ee_e tx n p) [] (by omega) e1 x1
            exact ⟨Nat.le_trans pe y1, y2⟩
        · rw [if_neg k16] at h ⊢
          by_cases k37 : ee_k tx n p = 37
          · rw [if_pos k37] at h ⊢
            by_cases d6 : dp = 6
            · rw [if_pos d6] at h; cases h
            · rw [if_neg d6] at h ⊢
              obtain ⟨x1, x2⟩ := ee_bd_i h
              rw [x2] at h ⊢
              obtain ⟨y1, y2⟩ := IH 8 (dp + 1) (ee_e tx n p) [] (by omega) e1 x1
              generalize (ee_pa tx n tk fu 8 (dp + 1) (ee_e tx n p) []).1 = p1 at h y1 y2 ⊢
              by_cases k38 : ee_k tx n p1 = 38
              · rw [if_pos k38]
                obtain ⟨z1, z2, z3, z4⟩ := ee_e_le tx hn y2
                exact ⟨by show p ≤ ee_e tx n p1; omega, z1⟩
              · rw [if_neg k38] at h; cases h
          · rw [if_neg k37] at h ⊢
            obtain ⟨x1, x2⟩ := ee_bd_i h
            rw [x2] at h ⊢
            obtain ⟨y1, y2⟩ := IH 4 dp p [] (by omega) hp x1
            generalize (ee_pa tx n tk fu 4 dp p []).1 = p1 at h y1 y2 ⊢
            by_cases kc : 39 ≤ ee_k tx n p1 ∧ ee_k tx n p1 ≤ 41
            · rw [if_pos kc] at h ⊢
              obtain ⟨x3, x4⟩ := ee_bd_i h
              rw [x4]
              obtain ⟨z1, z2, z3, z4⟩ := ee_e_le tx hn y2
              obtain ⟨y3, y4⟩ := IH 4 dp (ee_e tx n p1) [] (by omega) z1 x3
              exact ⟨Nat.le_trans (by omega) y3, y4⟩
            · rw [if_neg kc] at h; cases h
      · by_cases ev : m % 2 = 0
        · obtain ⟨l, rfl⟩ : ∃ l, m = 2 + 2 * l := ⟨(m - 2) / 2, by omega⟩
          have hl : l < 4 := by omega
          have v5 := (ee_lvw l hl).2.2.2.2.1
          rw [ee_pa_c hl] at h ⊢
          obtain ⟨x1, x2⟩ := ee_bd_i h
          rw [x2] at h ⊢
          obtain ⟨y1, y2⟩ := IH (ee_sub l) dp p [] v5 hp x1
          obtain ⟨y3, y4⟩ := IH (3 + 2 * l) dp _ _ (by omega) y2 h
          exact ⟨Nat.le_trans y1 y3, y4⟩
        · obtain ⟨l, rfl⟩ : ∃ l, m = 3 + 2 * l := ⟨(m - 3) / 2, by omega⟩
          have hl : l < 4 := by omega
          have v5 := (ee_lvw l hl).2.2.2.2.1
          rw [ee_pa_l hl] at h ⊢
          by_cases op : ee_op l (ee_k tx n p) = 0
          · rw [if_pos op]
            exact ⟨Nat.le_refl _, hp⟩
          · rw [if_neg op] at h ⊢
            obtain ⟨x1, x2⟩ := ee_bd_i h
            rw [x2] at h ⊢
            obtain ⟨y1, y2⟩ := IH (ee_sub l) dp (ee_e tx n p) [] v5 e1 x1
            obtain ⟨y3, y4⟩ := IH (3 + 2 * l) dp _ _ (by omega) y2 h
            exact ⟨Nat.le_trans pe (Nat.le_trans y1 y3), y4⟩
/-- what a line leaves, if it stands -/
def ee_good (n p a b c : Nat) (r : ee_R) : Prop := r.2.1 = none → p ≤ r.1 ∧ r.1 ≤ n ∧ ∃ s, ee_DW r.2.2 a b c s
theorem ee_good_nb {tx : Nat → Nat} {n p q a b c lo hi : Nat} {D : ee_D} {k : Nat → Nat → ee_R} (hn : n ≤ 900) (hp : q ≤ p) (hq : p ≤ n) (hk : ee_ok tx n p lo hi → ∀ p2, p ≤ p2 → p2 ≤ n → ee_good n q a b c (k (ee_v tx n p) p2)) : ee_good n q a b c (ee_nb tx n p lo hi D k) := by
  intro h
  unfold ee_nb at h ⊢
  obtain ⟨e1, e2, e3, e4⟩ := ee_e_le tx hn hq
  by_cases z : ee_ok tx n p lo hi
  · rw [if_pos z] at h ⊢
    exact hk z _ (by omega) e1 h
  · rw [if_neg z] at h
    cases h
theorem ee_good_rowl {tx : Nat → Nat} {n q a b c s o : Nat} (hn : n ≤ 900) : ∀ (k i p : Nat) (D : ee_D), q ≤ p → p ≤ n → ee_DW D a b c s → ee_good n q a b c (ee_rowl tx n o k i p D)
  | 0, i, p, D, h1, h2, dw => fun _ => ⟨h1, h2, s, dw⟩
  | k + 1, i, p, D, h1, h2, dw => by
    unfold ee_rowl
    exact ee_good_nb hn h1 h2 (fun _ p2 g1 g2 => ee_good_rowl hn k (i + 1) p2 _ (by omega) g2 (dw.set (by omega)))
theorem ee_good_batl {tx : Nat → Nat} {n q a b c s : Nat} (hn : n ≤ 900) : ∀ (f p e : Nat) (D : ee_D), q ≤ p → p ≤ n → ee_DW D a b c s → ee_good n q a b c (ee_batl tx n c f p e D)
  | 0, p, e, D, h1, h2, dw => fun h => by cases h
  | f + 1, p, e, D, h1, h2, dw => by
    obtain ⟨e1, e2, e3, e4⟩ := ee_e_le tx hn h2
    intro h
    unfold ee_batl at h ⊢
    by_cases z : ee_k tx n p = 23
    · rw [if_pos z] at h ⊢
      by_cases z2 : ee_ok tx n p 1 6
      · rw [if_pos z2] at h ⊢
        by_cases z3 : e / 2 ^ (ee_v tx n p - 1) % 2 = 0 ∧ ec_bc e = c
        · rw [if_pos z3] at h; cases h
        · rw [if_neg z3] at h ⊢
          exact ee_good_batl hn f _ _ D (by omega) e1 dw h
      · rw [if_neg z2] at h; cases h
    · rw [if_neg z]
      exact ⟨h1, h2, s, dw.set (by omega)⟩
theorem ee_good_line {tx : Nat → Nat} {n p a b c s : Nat} {D : ee_D} (hn : n ≤ 900) (hp : p ≤ n) (dw : ee_DW D a b c s) : ee_good n p a b c (ee_line tx n p a b c s D) := by
  obtain ⟨e1, e2, e3, e4⟩ := ee_e_le tx hn hp
  have pe : p ≤ ee_e tx n p := by omega
  have law : ∀ tk, ee_good n p a b c (ee_llaw tx n tk p D) := fun tk h => by
    have h : (ee_law0 tx n tk p).2.1 = none := h
    unfold ee_llaw
    have : p ≤ (ee_law0 tx n tk p).1 ∧ (ee_law0 tx n tk p).1 ≤ n := by
      unfold ee_law0 at h ⊢
      by_cases z : ee_k tx n (ee_e tx n p) = 31
      · rw [if_pos z] at h ⊢
        obtain ⟨z1, z2, z3, z4⟩ := ee_e_le tx hn e1
        obtain ⟨y1, y2⟩ := ee_pa_mono tk hn 10000 8 0 _ [] (by omega) z1 h
        exact ⟨Nat.le_trans (by omega) y1, y2⟩
      · rw [if_neg z] at h; cases h
    exact ⟨this.1, this.2, s, dw⟩
  unfold ee_line
  by_cases k2 : ee_k tx n p = 2
  · rw [if_pos k2]
    exact ee_good_nb hn pe e1 (fun _ p2 g1 g2 => ee_good_rowl hn b 0 p2 D (by omega) g2 dw)
  rw [if_neg k2]
  by_cases k3 : ee_k tx n p = 3
  · rw [if_pos k3]
    exact ee_good_nb hn pe e1 (fun _ p2 g1 g2 => ee_good_nb hn (by omega) g2 (fun _ p3 g3 g4 _ => ⟨by show p ≤ p3; omega, g4, s, dw.set (by omega)⟩))
  rw [if_neg k3]
  by_cases k4 : ee_k tx n p = 4
  · rw [if_pos k4]
    exact ee_good_nb hn pe e1 (fun _ p2 g1 g2 _ => ⟨by show p ≤ p2; omega, g2, s, dw.set (by omega)⟩)
  rw [if_neg k4]
  by_cases k5 : ee_k tx n p = 5
  · rw [if_pos k5]
    unfold ee_lhouse
    by_cases s4 : s = 4
    · rw [if_pos s4]
      intro h; cases h
    · rw [if_neg s4]
      refine ee_good_nb hn pe e1 (fun _ p2 g1 g2 _ => ⟨by show p ≤ p2; omega, g2, s + 1, ?_⟩)
      have d2 := dw.set (j := 27 + s) (v := nI (ee_v tx n (ee_e tx n p))) (by omega)
      have sl := dw.2.2.2.2
      have st : ∀ (E : ee_D) (j : Nat) (v : Int32) (i : Nat), (ee_set E j v).1 i = if i = j then v else E.1 i := fun _ _ _ _ => rfl
      refine ⟨⟨?_, d2.1.2⟩, ⟨?_, d2.2.1.2⟩, ⟨?_, d2.2.2.1.2⟩, ?_, by omega⟩
      · show (ee_set (ee_set D (27 + s) (nI (ee_v tx n (ee_e tx n p)))) 4 (nI (s + 1))).1 1 = nI a
        rw [st, if_neg (by decide)]
        exact d2.1.1
      · show (ee_set (ee_set D (27 + s) (nI (ee_v tx n (ee_e tx n p)))) 4 (nI (s + 1))).1 2 = nI b
        rw [st, if_neg (by decide)]
        exact d2.2.1.1
      · show (ee_set (ee_set D (27 + s) (nI (ee_v tx n (ee_e tx n p)))) 4 (nI (s + 1))).1 3 = nI c
        rw [st, if_neg (by decide)]
        exact d2.2.2.1.1
      · show (ee_set (ee_set D (27 + s) (nI (ee_v tx n (ee_e tx n p)))) 4 (nI (s + 1))).1 4 = nI (s + 1)
        rw [st, if_pos rfl]
  rw [if_neg k5]
  by_cases k6 : ee_k tx n p = 6
  · rw [if_pos k6]
    exact ee_good_nb hn pe e1 (fun _ p2 g1 g2 _ => ⟨by show p ≤ p2; omega, g2, s, dw.set (by omega)⟩)
  rw [if_neg k6]
  by_cases k7 : ee_k tx n p = 7
  · rw [if_pos k7]
    exact ee_good_nb hn pe e1 (fun _ p2 g1 g2 => ee_good_batl hn 1000 p2 0 _ (by omega) g2 (dw.set (by omega)))
  rw [if_neg k7]
  by_cases k8 : ee_k tx n p = 8
  · rw [if_pos k8]
    exact law false
  rw [if_neg k8]
  by_cases k9 : ee_k tx n p = 9
  · rw [if_pos k9]
    exact law true
  rw [if_neg k9]
  intro h; cases h
end EBMONO
