section EBFORM
variable {L : Nat} {xs : Nat → Int32}
/-! ===== what a law's codes look like ===== -/
theorem eb_isN.one {c : Int32} (h0 : 0 ≤ c.toInt) (h1 : c.toInt ≤ 1005) : eb_isN [c] 1 := fun _ a _ => a c h0 h1
theorem eb_isN.op {op : Int32} {a b : List Int32} {m n : Nat} (ho : op = 3000 ∨ op = 3001 ∨ op = 3002) (ha : eb_isN a m) (hb : eb_isN b n) : eb_isN (a ++ b ++ [op]) (max m (n + 1)) := fun P x y => y op a m b n ho (ha P x y) (hb P x y)
theorem eb_isT.cmp {op : Int32} {a b : List Int32} {m n : Nat} (ho : op = 3003 ∨ op = 3004 ∨ op = 3005) (ha : eb_isN a m) (hb : eb_isN b n) : eb_isT (a ++ b ++ [op]) (max m (n + 1)) := fun _ x _ _ => x op a m b n ho ha hb
theorem eb_isT.no {a : List Int32} {m : Nat} (ha : eb_isT a m) : eb_isT (a ++ [3006]) m := fun P x y z => y a m (ha P x y z)
theorem eb_isT.op {op : Int32} {a b : List Int32} {m n : Nat} (ho : op = 3007 ∨ op = 3008) (ha : eb_isT a m) (hb : eb_isT b n) : eb_isT (a ++ b ++ [op]) (max m (n + 1)) := fun P x y z => z op a m b n ho (ha P x y z) (hb P x y z)
def ee_cw (m : Nat) : Nat := if m = 0 then 1 else if m = 1 then 4 else if m < 4 then 2 else if m < 6 then 3 else if m < 8 then 5 else 6
def ee_W (m dp : Nat) (cs : List Nat) : Prop := ∃ w, w ≤ 2 * (6 - dp) + ee_cw m ∧ (if m = 1 ∨ 6 ≤ m then eb_isT (cs.map nI) w else eb_isN (cs.map nI) w)
theorem ee_bd_i {r : Nat × Option (Int32 × Int32) × List Nat} {k : Nat → List Nat → Nat × Option (Int32 × Int32) × List Nat} (h : (ee_bd r k).2.1 = none) : r.2.1 = none ∧ ee_bd r k = k r.1 r.2.2 := by
  obtain ⟨p, F, cs⟩ := r
  cases F with
  | none => exact ⟨rfl, rfl⟩
  | some y => exact absurd h (fun z => by cases z)
theorem ee_wn {c : Nat} (h : c ≤ 1005) : eb_isN ([c].map nI) 1 := by
  have e := nI_toInt (n := c) (by omega)
  exact eb_isN.one (by rw [e]; omega) (by rw [e]; omega)
theorem ee_opN {l k : Nat} (h : ee_op l k ≠ 0) (hl : l < 2) : nI (ee_op l k) = 3000 ∨ nI (ee_op l k) = 3001 ∨ nI (ee_op l k) = 3002 := by
  unfold ee_op at h ⊢
  by_cases a1 : l = 0 ∧ k = 34
  · rw [if_pos a1]; exact Or.inr (Or.inr rfl)
  · rw [if_neg a1] at h ⊢
    by_cases a2 : l = 1 ∧ k = 32
    · rw [if_pos a2]; exact Or.inl rfl
    · rw [if_neg a2] at h ⊢
      by_cases a3 : l = 1 ∧ k = 33
      · rw [if_pos a3]; exact Or.inr (Or.inl rfl)
      · rw [if_neg a3, if_neg (by omega), if_neg (by omega)] at h
        exact absurd rfl h
theorem ee_opT {l k : Nat} (h : ee_op l k ≠ 0) (hl : 2 ≤ l) : nI (ee_op l k) = 3007 ∨ nI (ee_op l k) = 3008 := by
  unfold ee_op at h ⊢
  rw [if_neg (by omega), if_neg (by omega), if_neg (by omega)] at h ⊢
  by_cases a1 : l = 2 ∧ k = 14
  · rw [if_pos a1]; exact Or.inl rfl
  · rw [if_neg a1] at h ⊢
    by_cases a2 : l = 3 ∧ k = 15
    · rw [if_pos a2]; exact Or.inr rfl
    · rw [if_neg a2] at h
      exact absurd rfl h
theorem ee_lvw (l : Nat) (hl : l < 4) : ee_cw (2 + 2 * l) = ee_cw (ee_sub l) + 1 ∧ ee_cw (3 + 2 * l) = ee_cw (ee_sub l) + 1 ∧ (l < 2 → ¬ (ee_sub l = 1 ∨ 6 ≤ ee_sub l)) ∧ (2 ≤ l → (ee_sub l = 1 ∨ 6 ≤ ee_sub l)) ∧ ee_sub l ≤ 9 ∧ (ee_sub l % 2 = 1 → ee_sub l = 1) := by
  have h : l = 0 ∨ l = 1 ∨ l = 2 ∨ l = 3 := by omega
  rcases h with rfl | rfl | rfl | rfl <;> decide
theorem ee_wf {tx : Nat → Nat} {n : Nat} (tk : Bool) (hn : n ≤ 900) : ∀ fu m dp p acc, m ≤ 9 → dp ≤ 6 → (m % 2 = 1 → m ≠ 1 → ee_W m dp acc) → (ee_pa tx n tk fu m dp p acc).2.1 = none → ee_W m dp (ee_pa tx n tk fu m dp p acc).2.2
  | 0 => fun m dp p acc _ _ _ h => by cases h
  | fu + 1 => by
    have IH := ee_wf (tx := tx) tk hn fu
    intro m dp p acc hm hd ha h
    by_cases m0 : m = 0
    · subst m0
      rw [ee_pa_0] at h ⊢
      by_cases k23 : ee_k tx n p = 23
      · rw [if_pos k23]
        have := ee_v_lt hn k23
        exact ⟨1, by show 1 ≤ 2 * (6 - dp) + 1; omega, ee_wn (c := ee_v tx n p) (by omega)⟩
      · rw [if_neg k23] at h ⊢
        by_cases kw : ee_wd tk (ee_k tx n p) < 9
        · rw [if_pos kw]
          have : ee_wd tk (ee_k tx n p) ≤ 5 := by
            unfold ee_wd at kw ⊢
            repeat' split
            all_goals first | omega | (exfalso; revert kw; repeat' split) 
            all_goals omega
          exact ⟨1, by show 1 ≤ 2 * (6 - dp) + 1; omega, ee_wn (c := 1000 + ee_wd tk (ee_k tx n p)) (by omega)⟩
        · rw [if_neg kw] at h ⊢
          by_cases k35 : ee_k tx n p = 35
          · rw [if_pos k35] at h ⊢
            by_cases d6 : dp = 6
            · rw [if_pos d6] at h
              cases h
            · rw [if_neg d6] at h ⊢
              obtain ⟨e1, e2⟩ := ee_bd_i h
              rw [e2] at h ⊢
              obtain ⟨w, w1, w2⟩ := IH 4 (dp + 1) (ee_e tx n p) [] (by omega) (by omega) (fun z => absurd z (by decide)) e1
              by_cases k36 : ee_k tx n (ee_pa tx n tk fu 4 (dp + 1) (ee_e tx n p) []).1 = 36
              · rw [if_pos k36]
                have w1 : w ≤ 2 * (6 - (dp + 1)) + 3 := w1
                exact ⟨w, by show w ≤ 2 * (6 - dp) + 1; omega, w2⟩
              · rw [if_neg k36] at h
                cases h
          · rw [if_neg k35] at h
            cases h
    · by_cases m1 : m = 1
      · subst m1
        rw [ee_pa_1] at h ⊢
        by_cases k16 : ee_k tx n p = 16
        · rw [if_pos k16] at h ⊢
          by_cases d6 : dp = 6
          · rw [if_pos d6] at h
            cases h
          · rw [if_neg d6] at h ⊢
            obtain ⟨e1, e2⟩ := ee_bd_i h
            rw [e2] at h ⊢
            obtain ⟨w, w1, w2⟩ := IH 1 (dp + 1) (ee_e tx n p) [] (by omega) (by omega) (fun _ z => absurd rfl z) e1
            have w1 : w ≤ 2 * (6 - (dp + 1)) + 4 := w1
            have w2 : eb_isT ((ee_pa tx n tk fu 1 (dp + 1) (ee_e tx n p) []).2.2.map nI) w := w2
            refine ⟨w, by show w ≤ 2 * (6 - dp) + 4; omega, ?_⟩
            show eb_isT (((ee_pa tx n tk fu 1 (dp + 1) (ee_e tx n p) []).2.2 ++ [3006]).map nI) w
            rw [List.map_append]
            exact w2.no
        · rw [if_neg k16] at h ⊢
          by_cases k37 : ee_k tx n p = 37
          · rw [if_pos k37] at h ⊢
            by_cases d6 : dp = 6
            · rw [if_pos d6] at h
              cases h
            · rw [if_neg d6] at h ⊢
              obtain ⟨e1, e2⟩ := ee_bd_i h
              rw [e2] at h ⊢
              obtain ⟨w, w1, w2⟩ := IH 8 (dp + 1) (ee_e tx n p) [] (by omega) (by omega) (fun z => absurd z (by decide)) e1
              by_cases k38 : ee_k tx n (ee_pa tx n tk fu 8 (dp + 1) (ee_e tx n p) []).1 = 38
              · rw [if_pos k38]
                have w1 : w ≤ 2 * (6 - (dp + 1)) + 6 := w1
                exact ⟨w, by show w ≤ 2 * (6 - dp) + 4; omega, w2⟩
              · rw [if_neg k38] at h
                cases h
          · rw [if_neg k37] at h ⊢
            obtain ⟨e1, e2⟩ := ee_bd_i h
            rw [e2] at h ⊢
            obtain ⟨w, w1, w2⟩ := IH 4 dp p [] (by omega) hd (fun z => absurd z (by decide)) e1
            generalize (ee_pa tx n tk fu 4 dp p []).1 = p1 at h ⊢
            generalize (ee_pa tx n tk fu 4 dp p []).2.2 = cs1 at h w2 ⊢
            by_cases kc : 39 ≤ ee_k tx n p1 ∧ ee_k tx n p1 ≤ 41
            · rw [if_pos kc] at h ⊢
              obtain ⟨e3, e4⟩ := ee_bd_i h
              rw [e4]
              obtain ⟨w', w3, w4⟩ := IH 4 dp (ee_e tx n p1) [] (by omega) hd (fun z => absurd z (by decide)) e3
              generalize (ee_pa tx n tk fu 4 dp (ee_e tx n p1) []).2.2 = cs2 at w4 ⊢
              have w1 : w ≤ 2 * (6 - dp) + 3 := w1
              have w3 : w' ≤ 2 * (6 - dp) + 3 := w3
              refine ⟨max w (w' + 1), by show max w (w' + 1) ≤ 2 * (6 - dp) + 4; omega, ?_⟩
              show eb_isT ((cs1 ++ cs2 ++ [3003 + (ee_k tx n p1 - 39)]).map nI) _
              rw [List.map_append, List.map_append]
              refine eb_isT.cmp ?_ w2 w4
              have h3 : ee_k tx n p1 = 39 ∨ ee_k tx n p1 = 40 ∨ ee_k tx n p1 = 41 := by omega
              rcases h3 with z | z | z
              · rw [z]; exact Or.inl rfl
              · rw [z]; exact Or.inr (Or.inl rfl)
              · rw [z]; exact Or.inr (Or.inr rfl)
            · rw [if_neg kc] at h
              cases h
      · by_cases ev : m % 2 = 0
        · obtain ⟨l, rfl⟩ : ∃ l, m = 2 + 2 * l := ⟨(m - 2) / 2, by omega⟩
          have hl : l < 4 := by omega
          obtain ⟨v1, v2, v3, v4, v5, v6⟩ := ee_lvw l hl
          rw [ee_pa_c hl] at h ⊢
          obtain ⟨e1, e2⟩ := ee_bd_i h
          rw [e2] at h ⊢
          obtain ⟨w, w1, w2⟩ := IH (ee_sub l) dp p [] v5 hd (fun z u => absurd (v6 z) u) e1
          generalize (ee_pa tx n tk fu (ee_sub l) dp p []).1 = p1 at h ⊢
          generalize (ee_pa tx n tk fu (ee_sub l) dp p []).2.2 = cs1 at h w2 ⊢
          obtain ⟨w', w3, w4⟩ := IH (3 + 2 * l) dp p1 cs1 (by omega) hd (fun _ _ => ⟨w, by omega, by
            by_cases l2 : l < 2
            · rw [if_neg (v3 l2)] at w2
              rw [if_neg (by omega)]
              exact w2
            · rw [if_pos (v4 (by omega))] at w2
              rw [if_pos (by omega)]
              exact w2⟩) h
          refine ⟨w', by omega, ?_⟩
          by_cases l2 : l < 2
          · rw [if_neg (by omega)] at w4 ⊢
            exact w4
          · rw [if_pos (by omega)] at w4 ⊢
            exact w4
        · obtain ⟨l, rfl⟩ : ∃ l, m = 3 + 2 * l := ⟨(m - 3) / 2, by omega⟩
          have hl : l < 4 := by omega
          obtain ⟨v1, v2, v3, v4, v5, v6⟩ := ee_lvw l hl
          obtain ⟨wa, wa1, wa2⟩ := ha (by omega) (by omega)
          rw [ee_pa_l hl] at h ⊢
          by_cases op : ee_op l (ee_k tx n p) = 0
          · rw [if_pos op]
            exact ⟨wa, wa1, wa2⟩
          · rw [if_neg op] at h ⊢
            obtain ⟨e1, e2⟩ := ee_bd_i h
            rw [e2] at h ⊢
            obtain ⟨w, w1, w2⟩ := IH (ee_sub l) dp (ee_e tx n p) [] v5 hd (fun z u => absurd (v6 z) u) e1
            generalize (ee_pa tx n tk fu (ee_sub l) dp (ee_e tx n p) []).1 = p1 at h ⊢
            generalize (ee_pa tx n tk fu (ee_sub l) dp (ee_e tx n p) []).2.2 = cs1 at h w2 ⊢
            refine IH (3 + 2 * l) dp p1 (acc ++ cs1 ++ [ee_op l (ee_k tx n p)]) (by omega) hd (fun _ _ => ⟨max wa (w + 1), by omega, ?_⟩) h
            rw [List.map_append, List.map_append]
            by_cases l2 : l < 2
            · rw [if_neg (v3 l2)] at w2
              rw [if_neg (by omega)] at wa2 ⊢
              exact eb_isN.op (ee_opN op l2) wa2 w2
            · rw [if_pos (v4 (by omega))] at w2
              rw [if_pos (by omega)] at wa2 ⊢
              exact eb_isT.op (ee_opT op (by omega)) wa2 w2
/-- a law that stands is well formed -/
theorem ee_law_ok {tx : Nat → Nat} {n : Nat} (tk : Bool) (hn : n ≤ 900) (p : Nat) (h : (ee_law tx n tk p).2.1 = none) : eb_okL (some ((ee_law tx n tk p).2.2.map nI)) := by
  unfold ee_law at h ⊢
  by_cases k31 : ee_k tx n (ee_e tx n p) = 31
  · rw [if_pos k31] at h ⊢
    obtain ⟨e1, e2⟩ := ee_bd_i h
    rw [e2] at h ⊢
    obtain ⟨w, w1, w2⟩ := ee_wf tk hn 10000 8 0 (ee_e tx n (ee_e tx n p)) [] (by omega) (by omega) (fun z => absurd z (by decide)) e1
    have w1 : w ≤ 18 := w1
    by_cases k30 : ee_k tx n (ee_pa tx n tk 10000 8 0 (ee_e tx n (ee_e tx n p)) []).1 = 30
    · rw [if_pos k30]
      intro cs e
      cases e
      exact ⟨w, by omega, w2⟩
    · rw [if_neg k30] at h
      cases h
  · rw [if_neg k31] at h
    cases h
end EBFORM
