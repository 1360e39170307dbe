section EBNEXT2
variable {L : Nat} {xs : Nat → Int32}
theorem ee_cA3 : ∀ j, j < 12 → eb_cA 3 j = nI ([59, 58, 43, 45, 42, 40, 41, 91, 93, 61, 60, 62].getD j 0) ∧ [59, 58, 43, 45, 42, 40, 41, 91, 93, 61, 60, 62].getD j 0 < 256 := by decide +kernel
theorem ee_sg12 (c : Nat) : ee_sg c ≤ 12 := List.findIdx_le_length
theorem M_next {d : Nat} {h : eb_H} {Q : Option Value → eb_H → Prop} {tx : Nat → Nat} {n : Nat} (ht : ∀ j, j < n → tx j < 256) (hn : n ≤ 900) (t : ee_MX h tx n) (p : Nat) (hp : p ≤ n) (e7 : eb_I h s_MO 7 = nI p) (ko : eb_KO h) (q : ∀ h', ee_fo h h' → ee_MT h' tx n p → Q none h') : eb_Ct (d + 5) 164 [.ref s_MO] h Q := by
  obtain ⟨b4, bl, bg⟩ := ee_b_n4 tx (p := p) hn
  obtain ⟨el, be, ebg⟩ := ee_eb_le tx (b := ee_b tx n p) hn (by omega)
  obtain ⟨b, hb⟩ : ∃ b, b = ee_b tx n p := ⟨_, rfl⟩
  have s6 : ∀ i, ee_so tx n i < 6 := fun i => ee_so_6 tx n i
  have done : ∀ (g : eb_H), ee_fo h g → ee_MX g tx n → eb_I g s_MO 6 = nI b → eb_I g s_MO 7 = nI (ee_eb tx n b) → (ee_k tx n p = 23 → eb_I g s_MO 10 = nI (ee_v tx n p)) → ∀ y, y = nI (ee_k tx n p) → Q none (eb_sI g s_MO 9 y) := by
    intro g F tg g6 g7 g10 y ey
    refine q _ (F.sI (by omega)) ⟨tg.sI (by decide), ?_, ?_, ?_, fun z => ?_⟩
    · rw [eb_I_sI, if_neg (by decide), ← hb]; exact g6
    · rw [eb_I_sI, if_neg (by decide)]
      unfold ee_e
      rw [← hb]; exact g7
    · rw [eb_I_sI', ey]
    · rw [eb_I_sI, if_neg (by decide)]; exact g10 z
  -- a word
  have word : ∀ (m i : Nat) (g : eb_H), ee_so tx n b = 1 → n + 1 ≤ i + m → b ≤ i → i ≤ n → ee_run (ee_so tx n) 1 m i = ee_eb tx n b → ee_fo h g → ee_MX g tx n → eb_I g s_MO 6 = nI b → eb_I g s_MO 7 = nI i → eb_Sn (d + 5) m_X11_next h 89 [(0, .ref s_MO)] [] g Q := by
    intro m
    induction m with
    | zero => intro i g _ h1 _ h2; omega
    | succ m ih =>
      intro i g s1 h1 hbi hin er F tg g6 g7
      have kg := F.1.ko ko
      refine b_X11_next_89 (d := d + 4) kg ?_
      rw [g7]
      refine M_see hn tg i (by omega) kg ⟨_, rfl, kg, M_small ht i kg ⟨_, rfl, kg, ?_⟩⟩
      rw [ee_i01]
      refine ⟨fun z => ?_, fun z => ?_⟩
      · have ee : ee_eb tx n b = i := by rw [← er]; exact ee_run_0 z (m + 1)
        refine M_key (d := d) ht hn tg g6 (by rw [g7]) (by omega) (by omega) kg ⟨_, rfl, kg, done g F tg g6 (by rw [ee]; exact g7) (fun u => ?_) _ ?_⟩
        · exfalso
          have := ((ee_k_23 hn).mp u).1
          rw [← hb] at this
          omega
        · congr 1
          unfold ee_k
          rw [← hb, if_neg (by omega), if_pos s1]
          unfold ee_e
          rw [← hb, ee]
      · have z := Decidable.not_not.mp z
        rw [g7, nI_1]
        rw [ee_run_1 z] at er
        have inn : i < n := by
          refine Classical.byContradiction fun u => ?_
          rw [ee_so_0 tx n i (by omega)] at z
          omega
        refine ih (i + 1) _ s1 (by omega) (by omega) (by omega) er (F.sI (by omega)) (tg.sI (by decide)) ?_ eb_I_sI'
        rw [eb_I_sI, if_neg (by decide)]; exact g6
  -- a number
  have num : ∀ (m i : Nat) (g : eb_H), ee_so tx n b = 2 → n + 1 ≤ i + m → b ≤ i → i ≤ n → (∀ j, b ≤ j → j < i → ee_so tx n j = 2) → ee_run (ee_so tx n) 2 m i = ee_eb tx n b → ee_fo h g → ee_MX g tx n → eb_I g s_MO 6 = nI b → eb_I g s_MO 7 = nI i → (i - b ≤ 3 → eb_I g s_MO 10 = nI (ee_vn tx b (i - b))) → eb_Sn (d + 5) m_X11_next h 146 [(0, .ref s_MO)] [] g Q := by
    intro m
    induction m with
    | zero => intro i g _ h1 _ h2; omega
    | succ m ih =>
      intro i g s2 h1 hbi hin dg er F tg g6 g7 g10
      have kg := F.1.ko ko
      refine b_X11_next_146 (d := d + 4) kg ?_
      rw [g7]
      refine M_see hn tg i (by omega) kg ⟨_, rfl, kg, M_digit ht i kg ⟨_, rfl, kg, ?_⟩⟩
      rw [ee_i01, g7, g6, pk_sub hbi]
      have le3 : nI (i - b) ≤ (3 : Int32) ↔ i - b ≤ 3 := nI_leI (b := 3) (by omega) (by omega)
      have ge3 : (3 : Int32) ≤ nI (i - b) ↔ 3 ≤ i - b := nI_leI (a := 3) (by omega) (by omega)
      refine ⟨fun z => ?_, fun z => ?_⟩
      · have ee : ee_eb tx n b = i := by rw [← er]; exact ee_run_0 z (m + 1)
        refine done g F tg g6 (by rw [ee]; exact g7) (fun u => ?_) _ ?_
        · have := ((ee_k_23 hn).mp u).2
          unfold ee_e at this
          rw [← hb, ee] at this
          unfold ee_v ee_e
          rw [← hb, ee]
          exact g10 (by omega)
        · have ek : ee_k tx n p = if 3 < i - b then 25 else 23 := by
            unfold ee_k
            rw [← hb, if_neg (by omega), if_neg (by omega), if_pos s2]
            unfold ee_e
            rw [← hb, ee]
          rw [ek]
          by_cases y : i - b ≤ 3
          · rw [if_pos (le3.mpr y), if_neg (by omega)]; rfl
          · rw [if_neg (fun u => y (le3.mp u)), if_pos (by omega)]; rfl
      · have z := Decidable.not_not.mp z
        obtain ⟨inn, d1, d2⟩ := ee_so2 z
        rw [ee_run_1 z] at er
        have dg' : ∀ j, b ≤ j → j < i + 1 → ee_so tx n j = 2 := fun j h1 h2 => by
          by_cases e : j = i
          · rw [e]; exact z
          · exact dg j h1 (by omega)
        rw [ge3]
        refine ⟨fun y => ?_, fun y => ?_⟩
        · rw [nI_1]
          refine ih (i + 1) _ s2 (by omega) (by omega) (by omega) dg' er (F.sI (by omega)) (tg.sI (by decide)) ?_ eb_I_sI' (fun u => absurd u (by omega))
          rw [eb_I_sI, if_neg (by decide)]; exact g6
        · refine M_see hn tg i (by omega) kg ⟨_, rfl, kg, ?_⟩
          have ev : ee_sv tx n i = nI (tx i) := if_pos inn
          rw [ev, g10 (by omega), ee_dig d1, eb_I_sI, if_neg (by decide), g7, nI_1]
          refine ih (i + 1) _ s2 (by omega) (by omega) (by omega) dg' er ((F.sI (by omega)).sI (by omega)) ((tg.sI (by decide)).sI (by decide)) ?_ eb_I_sI' (fun _ => ?_)
          · rw [eb_I_sI, if_neg (by decide), eb_I_sI, if_neg (by decide)]; exact g6
          · rw [eb_I_sI, if_neg (by decide), eb_I_sI']
            rw [show i + 1 - b = (i - b) + 1 by omega]
            show _ = nI (10 * ee_vn tx b (i - b) + (tx (b + (i - b)) - 48))
            rw [show b + (i - b) = i by omega]
  -- a sign, or none
  have sign : ∀ (m i : Nat) (g : eb_H), (ee_so tx n b = 3 ∨ ee_so tx n b = 5) → i + m = 12 → ee_fo h g → ee_MX g tx n → eb_I g s_MO 6 = nI b → eb_I g s_MO 7 = nI (b + 1) → eb_I g s_MO 9 = nI (if ee_sg (tx b) < i then 30 + ee_sg (tx b) else 25) → eb_Sn (d + 5) m_X11_next h 254 [(0, .ref s_MO), (1, .int (nI i))] [] g Q := by
    intro m
    induction m with
    | zero =>
      intro i g s35 hi F tg g6 g7 g9
      have hi : i = 12 := by omega
      subst hi
      have kg := F.1.ko ko
      have ek : ee_k tx n p = if ee_sg (tx b) < 12 then 30 + ee_sg (tx b) else 25 := by
        unfold ee_k
        rw [← hb, if_neg (by omega), if_neg (by omega), if_neg (by omega)]
        by_cases z : ee_so tx n b = 3
        · rw [if_pos z, if_pos (ee_so3 z).1]
        · have z5 : ee_so tx n b = 5 := by omega
          rw [if_neg z, if_neg]
          intro u
          have bn : b < n := by
            refine Classical.byContradiction fun v => ?_
            rw [ee_so_0 tx n b (by omega)] at z5
            omega
          unfold ee_so at z5
          rw [if_pos bn] at z5
          unfold ee_sc at z5
          by_cases a1 : tx b = 10 ∨ tx b = 32
          · rw [if_pos a1] at z5; omega
          · rw [if_neg a1] at z5
            by_cases a2 : 97 ≤ tx b ∧ tx b ≤ 122
            · rw [if_pos a2] at z5; omega
            · rw [if_neg a2] at z5
              by_cases a3 : 48 ≤ tx b ∧ tx b ≤ 57
              · rw [if_pos a3] at z5; omega
              · rw [if_neg a3, if_pos u] at z5
                omega
      refine b_X11_next_254 (d := d + 4) _ kg (C_length (d := d + 3) 3 (by decide) kg ⟨_, rfl, kg, fun _ => ?_, fun z => absurd (by decide) z⟩)
      refine q g F ⟨tg, by rw [← hb]; exact g6, ?_, by rw [ek]; exact g9, fun u => ?_⟩
      · unfold ee_e ee_eb
        rw [← hb, if_neg (by omega), if_neg (by omega)]
        exact g7
      · exfalso
        have := ((ee_k_23 hn).mp u).1
        rw [← hb] at this
        omega
    | succ m ih =>
      intro i g s35 hi F tg g6 g7 g9
      have kg := F.1.ko ko
      have bn : b < n := by
        refine Classical.byContradiction fun v => ?_
        rw [ee_so_0 tx n b (by omega)] at s35
        omega
      have cl := ht b bn
      obtain ⟨c1, c2⟩ := ee_cA3 i (by omega)
      have sl : eb_sln.getD 3 0 = 12 := rfl
      refine b_X11_next_254 (d := d + 4) _ kg (C_length (d := d + 3) 3 (by decide) kg ⟨_, rfl, kg, fun z => absurd z (by rw [sl]; exact nI_ge (by omega) (by omega)), fun _ => ?_⟩)
      rw [g6]
      refine M_see hn tg b (by omega) kg ⟨_, rfl, kg, C_charAt (d := d + 1) 3 i (by decide) (by rw [sl]; omega) kg ⟨_, rfl, kg, ?_⟩⟩
      have ev : ee_sv tx n b = nI (tx b) := if_pos bn
      have sa := ee_sg_at (tx b) cl i (by omega)
      rw [ev, c1, nI_eq (by omega) (by omega), nI_1, ← sa]
      refine ⟨fun z => ih (i + 1) g s35 (by omega) F tg g6 g7 ?_, fun z => ?_⟩
      · rw [g9]
        congr 1
        by_cases y : ee_sg (tx b) < i
        · rw [if_pos y, if_pos (by omega)]
        · rw [if_neg y, if_neg (by omega)]
      · refine ih (i + 1) _ s35 (by omega) (F.sI (by omega)) (tg.sI (by decide)) ?_ ?_ ?_
        · rw [eb_I_sI, if_neg (by decide)]; exact g6
        · rw [eb_I_sI, if_neg (by decide)]; exact g7
        · rw [eb_I_sI', if_pos (by omega), z]
          exact ec_9 30 i
  -- blanks
  have blanks : ∀ (m i : Nat) (g : eb_H), n + 1 ≤ i + m → i ≤ n → ee_run (ee_so tx n) 4 m i = b → ee_fo h g → ee_MX g tx n → eb_I g s_MO 6 = nI i → eb_Sn (d + 5) m_X11_next h 8 [(0, .ref s_MO)] [] g Q := by
    intro m
    induction m with
    | zero => intro i g h1 h2; omega
    | succ m ih =>
      intro i g h1 h2 er F tg g6
      have kg := F.1.ko ko
      have so4 := (ee_so_c (q := i) ht).1
      have more : ee_so tx n i = 4 → eb_Sn (d + 5) m_X11_next h 8 [(0, .ref s_MO)] [] (eb_sI g s_MO 6 (nI (i + 1))) Q := fun z => by
        rw [ee_run_1 z] at er
        have inn : i < n := by
          refine Classical.byContradiction fun u => ?_
          rw [ee_so_0 tx n i (by omega)] at z
          omega
        exact ih (i + 1) _ (by omega) (by omega) er (F.sI (by omega)) (tg.sI (by decide)) eb_I_sI'
      refine b_X11_next_8 (d := d + 4) kg ?_
      rw [g6]
      refine M_see hn tg i (by omega) kg ⟨_, rfl, kg, fun z => ?_, fun z1 => ?_⟩
      · rw [g6, nI_1]
        exact more (so4.mp (Or.inl z))
      · rw [g6]
        refine M_see hn tg i (by omega) kg ⟨_, rfl, kg, fun z2 => ?_, fun z => ?_⟩
        · have n4 : ee_so tx n i ≠ 4 := fun u => by
            rcases so4.mpr u with y | y
            · exact z1 y
            · exact z2 y
          have ebi : b = i := by rw [← er]; exact ee_run_0 n4 (m + 1)
          subst ebi
          rw [g6]
          have F7 : ee_fo h (eb_sI g s_MO 7 (nI b)) := F.sI (by omega)
          have t7 : ee_MX (eb_sI g s_MO 7 (nI b)) tx n := tg.sI (by decide)
          have x6 : eb_I (eb_sI g s_MO 7 (nI b)) s_MO 6 = nI b := by rw [eb_I_sI, if_neg (by decide)]; exact g6
          have x7 : eb_I (eb_sI g s_MO 7 (nI b)) s_MO 7 = nI b := eb_I_sI'
          generalize eb_sI g s_MO 7 (nI b) = g2 at F7 t7 x6 x7 ⊢
          have k2 := F7.1.ko ko
          rw [x6, t7.2, nI_ltI (by omega) (by omega)]
          refine ⟨fun z => ?_, fun z => ?_⟩
          · have sn0 : ee_so tx n b ≠ 0 := fun u => by
              have := ee_so_n.mp u
              omega
            refine M_see hn t7 b (by omega) k2 ⟨_, rfl, k2, M_small ht b k2 ⟨_, rfl, k2, ?_⟩⟩
            rw [ee_i01]
            refine ⟨fun n1 => ?_, fun y => ?_⟩
            · rw [x6]
              refine M_see hn t7 b (by omega) k2 ⟨_, rfl, k2, M_digit ht b k2 ⟨_, rfl, k2, ?_⟩⟩
              rw [ee_i01]
              refine ⟨fun n2 => ?_, fun y => ?_⟩
              · have l6 := s6 b
                rw [x7, nI_1]
                refine sign 12 0 _ (by omega) (by omega) ((F7.sI (by omega)).sI (by omega)) ((t7.sI (by decide)).sI (by decide)) ?_ ?_ ?_
                · rw [eb_I_sI, if_neg (by decide), eb_I_sI, if_neg (by decide)]; exact x6
                · rw [eb_I_sI, if_neg (by decide), eb_I_sI']
                · rw [eb_I_sI', if_neg (by omega)]
                  rfl
              · have y := Decidable.not_not.mp y
                have er2 : ee_run (ee_so tx n) 2 902 b = ee_eb tx n b := by
                  rw [ee_run_1 y]
                  unfold ee_eb
                  rw [if_neg sn0, if_pos (Or.inr y), y]
                refine num 902 b _ y (by omega) (Nat.le_refl _) (by omega) (fun j h1 h2 => absurd h2 (by omega)) er2 (F7.sI (by omega)) (t7.sI (by decide)) ?_ ?_ (fun _ => ?_)
                · rw [eb_I_sI, if_neg (by decide)]; exact x6
                · rw [eb_I_sI, if_neg (by decide)]; exact x7
                · rw [eb_I_sI', Nat.sub_self]
                  rfl
            · have y := Decidable.not_not.mp y
              have er2 : ee_run (ee_so tx n) 1 902 b = ee_eb tx n b := by
                rw [ee_run_1 y]
                unfold ee_eb
                rw [if_neg sn0, if_pos (Or.inl y), y]
              exact word 902 b g2 y (by omega) (Nat.le_refl _) (by omega) er2 F7 t7 x6 x7
          · have s0 : ee_so tx n b = 0 := ee_so_0 tx n b (by omega)
            have ek : ee_k tx n p = 24 := by
              unfold ee_k
              rw [← hb, if_pos s0]
            refine done g2 F7 t7 x6 ?_ (fun u => absurd u (by omega)) _ (by rw [ek]; rfl)
            unfold ee_eb
            rw [if_pos s0]
            exact x7
        · rw [g6, nI_1]
          exact more (so4.mp (Or.inr z))
  refine T_X11_next (d := d + 4) ko ?_
  rw [e7]
  exact blanks 901 p _ (by omega) hp hb.symm (ee_fo.rfl.sI (by omega)) (t.sI (by decide)) eb_I_sI'
end EBNEXT2
