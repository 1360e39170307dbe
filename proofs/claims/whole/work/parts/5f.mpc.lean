section EBMPC
variable {L : Nat} {xs : Nat → Int32}
theorem E_c {d l dp : Nat} {h0 h1 h : eb_H} {Q : Option Value → eb_H → Prop} (hl : l < 4) (ko : eb_KO h) (w : ee_EC (ee_sub l) d dp h1 h (fun r h2 => r = none ∧ eb_KO h2 ∧ ee_EC (3 + 2 * l) (d + 1) dp h h2 Q)) : ee_EC (2 + 2 * l) (d + 1) dp h0 h Q := by
  have hh : l = 0 ∨ l = 1 ∨ l = 2 ∨ l = 3 := by omega
  rcases hh with rfl | rfl | rfl | rfl
  · exact T_X11_readTerm _ ko w
  · exact T_X11_readSum _ ko w
  · exact T_X11_readBoth _ ko w
  · exact T_X11_readTruth _ ko w
theorem E_l0 {d l dp : Nat} {h0 h : eb_H} {Q : Option Value → eb_H → Prop} {y : Int32 × Int32} (hl : l < 4) (w : ee_MW h (some y)) (ko : eb_KO h) (q : Q none h) : ee_EC (3 + 2 * l) (d + 2) dp h0 h Q := by
  have hh : l = 0 ∨ l = 1 ∨ l = 2 ∨ l = 3 := by omega
  rcases hh with rfl | rfl | rfl | rfl
  · exact b_X11_readTerm_5 (d := d + 1) _ ko (M_eat0 (d := d) w _ ko ⟨_, rfl, ko, fun _ => q, fun z => absurd rfl z⟩)
  · exact b_X11_readSum_5 (d := d + 1) _ ko (M_is0 w _ ko ⟨_, rfl, ko, fun z => absurd rfl z, fun _ => M_is0 w _ ko ⟨_, rfl, ko, fun _ => q, fun z => absurd rfl z⟩⟩)
  · exact b_X11_readBoth_5 (d := d + 1) _ ko (M_eat0 (d := d) w _ ko ⟨_, rfl, ko, fun _ => q, fun z => absurd rfl z⟩)
  · exact b_X11_readTruth_5 (d := d + 1) _ ko (M_eat0 (d := d) w _ ko ⟨_, rfl, ko, fun _ => q, fun z => absurd rfl z⟩)
theorem ee_op_n {l k c v : Nat} (h : ∀ k, k ≠ c → ee_op l k = 0) (e : ee_op l c = v) : ee_op l k = (if k = c then v else 0) := by
  by_cases z : k = c
  · rw [if_pos z, z, e]
  · rw [if_neg z, h k z]
theorem E_l1 {d l dp : Nat} {h0 h1 h : eb_H} {Q : Option Value → eb_H → Prop} {tx : Nat → Nat} {n p f s : Nat} {tk : Bool} {A : List Nat} (ht : ∀ j, j < n → tx j < 256) (hn : n ≤ 900) (hl : l < 4) (m : ee_MS tx n tk h p f A s) (ko : eb_KO h) (q0 : ee_op l (ee_k tx n p) = 0 → Q none h) (q1 : ee_op l (ee_k tx n p) ≠ 0 → ∀ h', ee_fo h h' → ee_MS tx n tk h' (ee_e tx n p) f A (s + 1) → ee_EC (ee_sub l) (d + 6) dp h1 h' (fun r h5 => r = none ∧ eb_KO h5 ∧ eb_Ct (d + 6) 171 [.ref s_MO, .int (nI (ee_op l (ee_k tx n p)))] h5 (fun r h8 => r = none ∧ eb_KO h8 ∧ ee_EC (3 + 2 * l) (d + 7) dp h0 h8 Q))) : ee_EC (3 + 2 * l) (d + 7) dp h0 h Q := by
  have m0 := m
  obtain ⟨m1, m2, m3, m4, m5, m6⟩ := m
  have kl := ee_k_lt tx n p
  have st : ∀ h', ee_k tx n p ≠ 24 → ee_fo h h' → ee_MT h' tx n (ee_e tx n p) → ee_MS tx n tk h' (ee_e tx n p) f A (s + 1) := fun h' ne F t => by
    obtain ⟨g1, g2⟩ := ee_gt hn m5 ne
    exact m0.fo F t (by omega) g2
  have hh : l = 0 ∨ l = 1 ∨ l = 2 ∨ l = 3 := by omega
  rcases hh with rfl | rfl | rfl | rfl
  · refine b_X11_readTerm_5 (d := d + 6) _ ko (M_eat1 (d := d) ht hn m5 m1 m2 kl 34 (by omega) ko (fun kk h' F' t' => ⟨_, rfl, F'.1.ko ko, fun u => absurd u (by decide), fun _ => ?_⟩) (fun kk => ⟨_, rfl, ko, fun _ => q0 ?_, fun u => absurd rfl u⟩))
    · have := q1 (by rw [kk]; decide) h' F' (st h' (by omega) F' t')
      rw [kk] at this
      exact this
    · unfold ee_op
      rw [if_neg (by omega), if_neg (by omega), if_neg (by omega), if_neg (by omega), if_neg (by omega)]
  · refine b_X11_readSum_5 (d := d + 6) _ ko (M_is1 m1 m2 kl 32 (by omega) ko ⟨_, rfl, ko, fun kk => ?_, fun kk => ?_⟩)
    · rw [ee_i01] at kk
      have kk := Decidable.not_not.mp kk
      refine M_nx (d := d + 1) ht hn m0 (by omega) (Nat.le_refl _) ko (fun h' F' m' => ⟨rfl, F'.1.ko ko, ?_⟩)
      have := q1 (by rw [kk]; decide) h' F' m'
      rw [kk] at this
      rw [m1.2.2.2.1, kk]
      exact this
    · rw [ee_i01] at kk
      refine M_is1 m1 m2 kl 33 (by omega) ko ⟨_, rfl, ko, fun k3 => ?_, fun k3 => ?_⟩
      · rw [ee_i01] at k3
        refine q0 ?_
        unfold ee_op
        rw [if_neg (by omega), if_neg (by omega), if_neg (by omega), if_neg (by omega), if_neg (by omega)]
      · rw [ee_i01] at k3
        have k3 := Decidable.not_not.mp k3
        refine M_nx (d := d + 1) ht hn m0 (by omega) (Nat.le_refl _) ko (fun h' F' m' => ⟨rfl, F'.1.ko ko, ?_⟩)
        have := q1 (by rw [k3]; decide) h' F' m'
        rw [k3] at this
        rw [m1.2.2.2.1, k3]
        exact this
  · refine b_X11_readBoth_5 (d := d + 6) _ ko (M_eat1 (d := d) ht hn m5 m1 m2 kl 14 (by omega) ko (fun kk h' F' t' => ⟨_, rfl, F'.1.ko ko, fun u => absurd u (by decide), fun _ => ?_⟩) (fun kk => ⟨_, rfl, ko, fun _ => q0 ?_, fun u => absurd rfl u⟩))
    · have := q1 (by rw [kk]; decide) h' F' (st h' (by omega) F' t')
      rw [kk] at this
      exact this
    · unfold ee_op
      rw [if_neg (by omega), if_neg (by omega), if_neg (by omega), if_neg (by omega), if_neg (by omega)]
  · refine b_X11_readTruth_5 (d := d + 6) _ ko (M_eat1 (d := d) ht hn m5 m1 m2 kl 15 (by omega) ko (fun kk h' F' t' => ⟨_, rfl, F'.1.ko ko, fun u => absurd u (by decide), fun _ => ?_⟩) (fun kk => ⟨_, rfl, ko, fun _ => q0 ?_, fun u => absurd rfl u⟩))
    · have := q1 (by rw [kk]; decide) h' F' (st h' (by omega) F' t')
      rw [kk] at this
      exact this
    · unfold ee_op
      rw [if_neg (by omega), if_neg (by omega), if_neg (by omega), if_neg (by omega), if_neg (by omega)]
theorem ee_lvd (l : Nat) (hl : l < 4) : ee_dr (2 + 2 * l) = ee_dr (ee_sub l) + 1 ∧ ee_dr (3 + 2 * l) = ee_dr (ee_sub l) + 1 := by
  have h : l = 0 ∨ l = 1 ∨ l = 2 ∨ l = 3 := by omega
  rcases h with rfl | rfl | rfl | rfl <;> decide
theorem ee_mpC {tx : Nat → Nat} {n : Nat} (hn : n ≤ 900) (tk : Bool) (f fu : Nat) (IH : ee_MP tx n tk f fu) (l : Nat) (hl : l < 4) (dp p : Nat) (A : List Nat) (s : Nat) (h h0 : eb_H) (Q : Option Value → eb_H → Prop) (D : Nat) (hfu : 10 * (n - p) + ee_rk (2 + 2 * l) < fu + 1) (hd : dp ≤ 6) (hD : 12 + 8 * (6 - dp) + ee_dr (2 + 2 * l) ≤ D) (ko : eb_KO h) (m : ee_MS tx n tk h p f A s) (q : ∀ h', ee_fl f h h' → ee_OU tx n tk (2 + 2 * l) p f A s (ee_pa tx n tk (fu + 1) (2 + 2 * l) dp p []) h' → Q none h') : ee_EC (2 + 2 * l) D dp h0 h Q := by
  obtain ⟨v1, v2, v3, v4, v5, v6, v7, v8, v9, v10, v11, v12, v13, v14⟩ := ee_lv l hl
  obtain ⟨u1, u2⟩ := ee_lvd l hl
  clear v1 v2 v3 v4 v5 v9 v12 v13 v14
  obtain ⟨E, rfl⟩ : ∃ E, D = E + 7 := ⟨D - 7, by omega⟩
  rw [ee_pa_c hl] at q
  refine E_c (d := E + 6) (h1 := h0) hl ko ?_
  refine IH (ee_sub l) dp p [] A s h h0 _ (E + 6) v10 (by omega) hd (by omega) ko (fun _ => rfl) (by rw [List.append_nil]; exact m) (fun h2 F2 ou => ⟨rfl, F2.1.ko ko, ?_⟩)
  have k2 := F2.1.ko ko
  rcases ou with ⟨y, e1, w2⟩ | ⟨e1, pg, pl, M2⟩
  · exact E_l0 (d := E + 5) hl w2 k2 (q h2 F2 (Or.inl ⟨y, ee_bd_f e1, w2⟩))
  · rw [ee_bd_n e1] at q
    have pg := pg v11
    generalize (ee_pa tx n tk fu (ee_sub l) dp p []).1 = p1 at q M2 pg pl
    generalize (ee_pa tx n tk fu (ee_sub l) dp p []).2.2 = cs at q M2
    have pn := M2.2.2.2.2.1
    refine IH (3 + 2 * l) dp p1 cs A s h2 h Q (E + 7) (by omega) (by omega) hd (by omega) k2 (fun z => absurd z (by omega)) M2 (fun h3 F3 ou => q h3 (F2.trans F3) ?_)
    rcases ou with o | ⟨e3, _, pl3, M3⟩
    · exact Or.inl o
    · exact Or.inr ⟨e3, fun _ => Nat.lt_of_lt_of_le pg pl3, Nat.le_trans (Nat.le_of_lt pg) pl3, M3⟩
theorem ee_mpL {tx : Nat → Nat} {n : Nat} (ht : ∀ j, j < n → tx j < 256) (hn : n ≤ 900) (tk : Bool) (f fu : Nat) (IH : ee_MP tx n tk f fu) (l : Nat) (hl : l < 4) (dp p : Nat) (acc A : List Nat) (s : Nat) (h h0 : eb_H) (Q : Option Value → eb_H → Prop) (D : Nat) (hfu : 10 * (n - p) + 6 < fu + 1) (hd : dp ≤ 6) (hD : 12 + 8 * (6 - dp) + ee_dr (3 + 2 * l) ≤ D) (ko : eb_KO h) (m : ee_MS tx n tk h p f (A ++ acc) s) (q : ∀ h', ee_fl f h h' → ee_OU tx n tk (3 + 2 * l) p f A s (ee_pa tx n tk (fu + 1) (3 + 2 * l) dp p acc) h' → Q none h') : ee_EC (3 + 2 * l) D dp h0 h Q := by
  obtain ⟨v1, v2, v3, v4, v5, v6, v7, v8, v9, v10, v11, v12, v13, v14⟩ := ee_lv l hl
  obtain ⟨u1, u2⟩ := ee_lvd l hl
  clear v1 v2 v3 v4 v5 v9 v12 v13 v14
  obtain ⟨E, rfl⟩ : ∃ E, D = E + 7 := ⟨D - 7, by omega⟩
  rw [ee_pa_l hl] at q
  have pn := m.2.2.2.2.1
  refine E_l1 (d := E) (h1 := h0) ht hn hl m ko (fun op => ?_) (fun op h2 F2 M2 => ?_)
  · rw [if_pos op] at q
    exact q h ee_fl.rfl (Or.inr ⟨rfl, fun z => absurd z (by omega), Nat.le_refl _, m⟩)
  · rw [if_neg op] at q
    have k2 := F2.1.ko ko
    obtain ⟨c, _, _, _, _, _, _, _, c8, _, _, _⟩ := ee_opc op
    obtain ⟨g1, g2⟩ := ee_gt hn pn c8
    refine IH (ee_sub l) dp (ee_e tx n p) [] (A ++ acc) (s + 1) h2 h0 _ (E + 6) v10 (by omega) hd (by omega) k2 (fun _ => rfl) (by rw [List.append_nil]; exact M2) (fun h3 F3 ou => ⟨rfl, F3.1.ko k2, ?_⟩)
    have k3 := F3.1.ko k2
    have FF : ee_fl f h h3 := (F2.fl).trans F3
    rcases ou with ⟨y, e1, w3⟩ | ⟨e1, pg, pl, M3⟩
    · exact M_code0 w3 _ k3 ⟨rfl, k3, E_l0 (d := E + 5) hl w3 k3 (q h3 FF (Or.inl ⟨y, ee_bd_f e1, w3⟩))⟩
    · rw [ee_bd_n e1] at q
      have pg := pg v11
      generalize (ee_pa tx n tk fu (ee_sub l) dp (ee_e tx n p) []).1 = p2 at q M3 pg pl
      generalize (ee_pa tx n tk fu (ee_sub l) dp (ee_e tx n p) []).2.2 = cs at q M3
      refine M3.code hn _ k3 (fun h4 F4 M4 => ⟨rfl, F4.1.ko k3, ?_⟩)
      have k4 := F4.1.ko k3
      rw [List.append_assoc A acc cs, List.append_assoc A (acc ++ cs)] at M4
      have pn2 := M4.2.2.2.2.1
      refine IH (3 + 2 * l) dp p2 (acc ++ cs ++ [ee_op l (ee_k tx n p)]) A s h4 h0 Q (E + 7) (by omega) (by omega) hd (by omega) k4 (fun z => absurd z (by omega)) M4 (fun h5 F5 ou => q h5 ((FF.trans F4).trans F5) ?_)
      rcases ou with o | ⟨e3, _, pl3, M5⟩
      · exact Or.inl o
      · exact Or.inr ⟨e3, fun z => absurd z (by omega), Nat.le_trans (Nat.le_of_lt (Nat.lt_trans g1 pg)) pl3, M5⟩
/-- the reference's descent goes as ee_pa -/
theorem ee_mp {tx : Nat → Nat} {n : Nat} (ht : ∀ j, j < n → tx j < 256) (hn : n ≤ 900) (tk : Bool) (f : Nat) : ∀ fu, ee_MP tx n tk f fu
  | 0 => fun m dp p acc A s h h0 Q D _ hfu => absurd hfu (by omega)
  | fu + 1 => by
    have IH := ee_mp ht hn tk f fu
    intro m dp p acc A s h h0 Q D hm hfu hd hD ko ha M q
    by_cases m0 : m = 0
    · subst m0
      have ha := ha (Or.inl rfl)
      subst ha
      rw [List.append_nil] at M
      exact ee_mpA ht hn tk f fu IH dp p A s h h0 Q D hfu hd hD ko M q
    · by_cases m1 : m = 1
      · subst m1
        have ha := ha (Or.inr rfl)
        subst ha
        rw [List.append_nil] at M
        exact ee_mpU ht hn tk f fu IH dp p A s h h0 Q D hfu hd hD ko M q
      · by_cases ev : m % 2 = 0
        · have ha := ha (Or.inl ev)
          subst ha
          rw [List.append_nil] at M
          obtain ⟨l, rfl⟩ : ∃ l, m = 2 + 2 * l := ⟨(m - 2) / 2, by omega⟩
          exact ee_mpC hn tk f fu IH l (by omega) dp p A s h h0 Q D hfu hd hD ko M q
        · obtain ⟨l, rfl⟩ : ∃ l, m = 3 + 2 * l := ⟨(m - 3) / 2, by omega⟩
          have v8 := (ee_lv l (by omega)).2.2.2.2.2.2.2.1
          exact ee_mpL ht hn tk f fu IH l (by omega) dp p acc A s h h0 Q D (by omega) hd hD ko M q
end EBMPC
