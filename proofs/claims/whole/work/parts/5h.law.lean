section EBLAWW
variable {L : Nat} {xs : Nat → Int32}
abbrev ee_ftq (c : Nat) : Prop := ee_fq c ∨ c = s_tape
theorem ee_XT.gw {P : Nat → Prop} {h h' : eb_H} {tx : Nat → Nat} {n p : Nat} {F : Option (Int32 × Int32)} (t : ee_XT h tx n p F) (a : ee_gw P h h') (h89 : 89 ≤ eb_n h) (z1 : ¬ P s_tape) (z2 : ¬ P s_tape_text) : ee_XT h' tx n p F := by
  unfold ee_XT ee_TX
  rw [(a.2 s_tape (Nat.lt_of_lt_of_le (by decide) h89)).1 z1, (a.2 s_tape_text (Nat.lt_of_lt_of_le (by decide) h89)).1 z2]
  exact t
theorem ee_split : ∀ W : List Nat, ∃ q W', W = q ++ W' ∧ (∀ x, x ∈ q → 102 ≤ x / 10) ∧ (∀ x t, W' = x :: t → x / 10 < 102)
  | [] => ⟨[], [], rfl, fun x hx => absurd hx (List.not_mem_nil), fun x t e => by cases e⟩
  | y :: W => by
    by_cases z : 102 ≤ y / 10
    · obtain ⟨q, W', e, a, b⟩ := ee_split W
      refine ⟨y :: q, W', by rw [e]; rfl, fun x hx => ?_, b⟩
      rcases List.mem_cons.mp hx with u | u
      · rw [u]; exact z
      · exact a x u
    · exact ⟨[], y :: W, rfl, fun x hx => absurd hx (List.not_mem_nil), fun x t e => by cases e; omega⟩
theorem C_fl2 {d : Nat} {h : eb_H} {Q : Option Value → eb_H → Prop} {tx : Nat → Nat} {n p : Nat} (hn : n ≤ 900) (t : ee_XT h tx n p (ee_nf tx n p)) (c : Int32) (hc : c ≠ 0) (ko : eb_KO h) (q : ∀ h', ee_ft h h' → ee_XT h' tx n p (some (ee_fa tx n p c)) → Q none h') : eb_Ct d 68 [.ref s_tape, .int c] h Q := by
  by_cases z : ee_k tx n p = 25
  · rw [ee_nf_s hn z c] at t
    exact C_fl t c hc ko (fun h' F' t' => q h' F' t')
  · rw [(ee_nf_n hn).mpr z] at t
    refine C_fl t c hc ko (fun h' F' t' => q h' F' ?_)
    unfold ee_fa
    rw [if_neg z]
    exact t'
/-- behind a fault: out of the loop, and the law is made all the same -/
theorem C_hx {d : Nat} {h0 h g : eb_H} {Q : Option Value → eb_H → Prop} {x : Int32} {i : Nat} {tx : Nat → Nat} {n p : Nat} {y : Int32 × Int32} (fw : ee_fw h g) (t : ee_XT g tx n p (some y)) (ls : ee_LS g) (ko : eb_KO h) (h89 : 89 ≤ eb_n h) (w : ∀ l h' K, ee_gw ee_ftq h h' → eb_KO h' → eb_n h' = eb_n h + 4 → eb_z h' = eb_z h + (41 + K.length) → K.length < 900 → eb_I h' s_tape 1 = eb_I h s_tape 1 → ee_XT h' tx n p (some y) → eb_n h ≤ eb_ix l → ee_lw h' l K → Q (some (.ref l)) h') : ee_HD d h0 Q x g i := by
  obtain ⟨C, W, dp, ps, br, sd, wa, fr, l, l1, l2, ⟨dq, l3⟩, l4, l5⟩ := ls
  obtain ⟨q, W', e, a, b⟩ := ee_split W
  subst e
  have kg := fw.1.ko ko
  have ng : eb_n g = eb_n h := fw.1.1.1
  have zg : eb_z g = eb_z h := fw.1.1.2.1
  have g89 : 89 ≤ eb_n g := by omega
  rw [ee_nt_app] at l3
  have l3 : dp = (dq + ee_nt W') + ee_nt q := by omega
  subst l3
  rw [List.length_append] at l2
  have nz : ¬ eb_I g s_tape 7 = 0 := fun z => t.2.2.2.2.2.2.2 (t.2.2.2.2.2.1.symm.trans z)
  have X := C_ex (d := d + 5) (Q := Q) l (fun x hx => ⟨a x hx, (l5 x (List.mem_append_left _ hx)).2⟩) (fun x t e => ⟨b x t e, (l5 x (List.mem_append_right _ (by rw [e]; exact List.mem_cons_self ..))).2⟩) l1 (by omega) l4 kg g89 (fun l h' G k' n' z' il lw => by
    refine w l h' (q.reverse ++ C) (fw.1.gw.trans (G.weak (fun c u => Or.inl u))) k' (by omega) (by omega) (by rw [List.length_append, List.length_reverse]; omega) ?_ (t.gw G g89 (by unfold ee_fq; decide) (by unfold ee_fq; decide)) (by omega) lw
    rw [(G.2 s_tape (Nat.lt_of_lt_of_le (by decide) g89)).1 (by unfold ee_fq; decide)]
    exact fw.2)
  exact b_X3_readTruth_40 (d := d + 6) _ _ kg ⟨fun _ => X, fun _ => ⟨fun _ => X, fun z => absurd z nz⟩⟩
/-- a law, up to its ; -/
def ee_law (tx : Nat → Nat) (n : Nat) (tk : Bool) (p : Nat) : Nat × Option (Int32 × Int32) × List Nat := if ee_k tx n (ee_e tx n p) = 31 then ee_bd (ee_pa tx n tk 10000 8 0 (ee_e tx n (ee_e tx n p)) []) (fun p1 cs => if ee_k tx n p1 = 30 then (p1, none, cs) else (p1, some (ee_fa tx n p1 2), [])) else (ee_e tx n p, some (ee_fa tx n (ee_e tx n p) 2), [])
theorem C_rt {d : Nat} {h : eb_H} {Q : Option Value → eb_H → Prop} {tx : Nat → Nat} {n p : Nat} (ht : ∀ j, j < n → tx j < 256) (hn : n ≤ 900) (tk : Bool) (x : Int32) (hx : x = 0 ↔ ¬ tk = true) (t : ee_XT h tx n p none) (hp : p ≤ n) (h3 : p + 3 ≤ ee_e tx n p) (ko : eb_KO h) (h89 : 89 ≤ eb_n h)
    (qf : ∀ y, (ee_law tx n tk p).2.1 = some y → ∀ l h' K, ee_gw ee_ftq h h' → eb_KO h' → eb_n h' = eb_n h + 4 → eb_z h' = eb_z h + (41 + K.length) → K.length < 900 → eb_I h' s_tape 1 = eb_I h s_tape 1 → (∃ p', p' ≤ n ∧ ee_XT h' tx n p' (some y)) → eb_n h ≤ eb_ix l → ee_lw h' l K → Q (some (.ref l)) h')
    (qo : (ee_law tx n tk p).2.1 = none → ∀ l h', ee_gw ee_ftq h h' → eb_KO h' → eb_n h' = eb_n h + 4 → eb_z h' = eb_z h + (41 + (ee_law tx n tk p).2.2.length) → eb_I h' s_tape 1 = eb_I h s_tape 1 → ee_XT h' tx n (ee_law tx n tk p).1 none → ee_k tx n (ee_law tx n tk p).1 = 30 → p + 3 < (ee_law tx n tk p).1 → (ee_law tx n tk p).1 ≤ n → eb_n h ≤ eb_ix l → ee_lw h' l ((ee_law tx n tk p).2.2.map ee_t1).reverse → Q (some (.ref l)) h') : eb_Ct (d + 7) 28 [.ref s_reader_laws, .int x] h Q := by
  have e1 := (ee_e_le tx hn hp).1
  refine T_X3_readTruth (d := d + 6) _ ko (T_X3_clearAll ko ?_)
  have F1 : ec_fr ee_fq h (eb_sI (eb_sI (eb_sI (eb_sI (eb_sI (eb_sI (eb_sI (eb_sI h s_reader_laws 3 0) s_reader_laws 4 0) s_reader_laws 5 0) s_reader_laws 6 0) s_reader_laws 7 0) s_reader_laws 8 0) s_reader_laws 9 1) s_reader_laws 10 1) := (((((((ec_fr.rfl.sI (Or.inl rfl)).sI (Or.inl rfl)).sI (Or.inl rfl)).sI (Or.inl rfl)).sI (Or.inl rfl)).sI (Or.inl rfl)).sI (Or.inl rfl)).sI (Or.inl rfl)
  have L1 : ee_LR (eb_sI (eb_sI (eb_sI (eb_sI (eb_sI (eb_sI (eb_sI (eb_sI h s_reader_laws 3 0) s_reader_laws 4 0) s_reader_laws 5 0) s_reader_laws 6 0) s_reader_laws 7 0) s_reader_laws 8 0) s_reader_laws 9 1) s_reader_laws 10 1) [] [] 0 0 0 0 1 1 := by
    unfold ee_LR
    simp only [eb_I_sI]
    exact ⟨⟨rfl, True.intro⟩, ⟨rfl, True.intro⟩, rfl, rfl, rfl, rfl, rfl, rfl⟩
  generalize eb_sI (eb_sI (eb_sI (eb_sI (eb_sI (eb_sI (eb_sI (eb_sI h s_reader_laws 3 0) s_reader_laws 4 0) s_reader_laws 5 0) s_reader_laws 6 0) s_reader_laws 7 0) s_reader_laws 8 0) s_reader_laws 9 1) s_reader_laws 10 1 = h1 at F1 L1 ⊢
  have k1 := F1.ko ko
  refine ⟨rfl, k1, C_adv (d := d) ht hn hp (t.q F1) k1 (fun h2 F2 t2 => ⟨rfl, F2.1.ko k1, ?_⟩)⟩
  have k2 := F2.1.ko k1
  have t2 : ee_XT h2 tx n (ee_e tx n p) (ee_nf tx n (ee_e tx n p)) := t2
  have w2 : ee_fw h h2 := (ee_fw.q F1).trans F2.fw
  have L2 := L1.fr F2.1 (by decide) (by decide) (by decide)
  unfold ee_law at qf qo
  generalize ee_e tx n p = p1 at h3 e1 t2 qf qo
  refine C_colon (d := d + 2) ht hn e1 t2 k2 ⟨_, rfl, k2, fun z => ?_, fun z => ?_⟩
  · rw [ee_i01] at z
    have z := Decidable.not_not.mp z
    rw [if_pos z] at qf qo
    rw [(ee_nf_n hn).mpr (show ee_k tx n p1 ≠ 25 by omega)] at t2
    obtain ⟨g1, g2⟩ := ee_gt hn e1 (show ee_k tx n p1 ≠ 24 by omega)
    refine C_adv (d := d) ht hn e1 t2 k2 (fun h4 F4 t4 => ⟨rfl, F4.1.ko k2, ?_⟩)
    have t4 : ee_XT h4 tx n (ee_e tx n p1) (ee_nf tx n (ee_e tx n p1)) := t4
    have L4 := L2.fr F4.1 (by decide) (by decide) (by decide)
    have w4 := w2.trans F4.fw
    generalize ee_e tx n p1 = p2 at g1 g2 t4 qf qo
    refine ee_sim (d := d) (h0 := h) (gB := h) (Q := Q) ht hn tk x hx ko 10000 8 0 p2 [] [] [] 0 0 0 1 0 h4 (by omega) (by show 10 * (n - p2) + 5 < 10000; omega) (fun _ => ⟨⟨Nat.le_refl _, by omega, Nat.le_refl _, fun x hx => absurd hx (List.not_mem_nil), fun x W' e => by cases e⟩, ⟨Nat.le_refl _, Nat.le_refl _⟩, fun z => absurd z (by omega), fun _ => ⟨rfl, rfl, rfl⟩, w4, t4, L4, Nat.le_refl _, by omega, g2⟩) (fun z => absurd (Or.inl rfl) z) (fun y hy g' i' fw tt ls => ?_) (fun hy g' i' e q EN => ?_)
    · obtain ⟨p', hp', tt⟩ := tt
      exact C_hx fw tt ls ko h89 (fun l h' K a1 a2 a3 a4 a5 a6 a7 a8 a9 => qf y (ee_bd_f hy) l h' K a1 a2 a3 a4 a5 a6 ⟨p', hp', a7⟩ a8 a9)
    · rw [ee_bd_n hy] at qf qo
      generalize (ee_pa tx n tk 10000 8 0 p2 []).1 = p3 at qf qo EN
      generalize (ee_pa tx n tk 10000 8 0 p2 []).2.2 = cs at qf qo EN
      obtain ⟨n1, n2, n3, n4, n5, n6, sd', n7, n9, n8, SS2⟩ := EN
      have n1 := n1 (Or.inl rfl)
      have n9 := n9 (Or.inl (by omega))
      have n4 : ∀ x, x ∈ q → 102 ≤ x / 10 ∧ x < 2000 := n4
      rw [List.append_nil, List.append_nil] at SS2
      rw [List.append_nil] at n5
      have S20 := SS2
      obtain ⟨s1, s2, s3, s4, s5, s6⟩ := SS2
      rw [List.length_reverse] at s4
      by_cases k30 : ee_k tx n p3 = 30
      · rw [if_pos k30] at qo
        have kg := s1.1.ko ko
        have ng : eb_n g' = eb_n h := s1.1.1.1
        have zg : eb_z g' = eb_z h := s1.1.1.2.1
        have g89 : 89 ≤ eb_n g' := by omega
        have t3 := s2
        rw [(ee_nf_n hn).mpr (show ee_k tx n p3 ≠ 25 by omega)] at t3
        have eK : q.reverse ++ e.reverse = (cs.map ee_t1).reverse := by rw [n3, List.reverse_append]
        have lK : (cs.map ee_t1).reverse.length = cs.length := by rw [List.length_reverse, List.length_map]
        have X := C_ex (d := d + 5) (Q := Q) (C := e.reverse) (q := q) (W := []) (dp := 0) (by rw [List.append_nil]; exact s3) n4 (fun x t e => by cases e) (by rw [List.append_nil]; omega) (by rw [List.length_reverse]; omega) (by omega) kg g89 (fun l h' G k' n' z' il lw => by
          rw [eK] at lw z'
          rw [lK] at z'
          refine qo rfl l h' (s1.1.gw.trans (G.weak (fun c u => Or.inl u))) k' (by omega) (by show _ = _ + (41 + cs.length); omega) ?_ (t3.gw G g89 (by unfold ee_fq; decide) (by unfold ee_fq; decide)) k30 (by show p + 3 < p3; omega) s6 (by omega) lw
          rw [(G.2 s_tape (Nat.lt_of_lt_of_le (by decide) g89)).1 (by unfold ee_fq; decide)]
          exact s1.2)
        have e7 : eb_I g' s_tape 7 = 0 := t3.2.2.2.2.2.1
        refine b_X3_readTruth_40 (d := d + 6) _ _ kg ⟨fun _ => X, fun _ => ⟨fun _ => X, fun _ => ?_⟩⟩
        refine T_X3_isOver (d := d + 5) kg (C_semi (d := d + 1) ht hn s6 t3 kg ⟨_, rfl, kg, _, rfl, kg, ?_⟩)
        have yes : ((¬ ((if ee_k tx n p3 = 30 then (1 : Int32) else 0) = 0)) ∧ (((eb_I g' s_reader_laws 9) = 0) ∧ ((¬ ((eb_I g' s_reader_laws 8) = 0)) ∧ (((eb_I g' s_reader_laws 6) = 0) ∧ ((eb_I g' s_reader_laws 7) = 0))))) := by
          refine ⟨by rw [if_pos k30]; decide, s3.2.2.2.2.2.2.1, ?_, s3.2.2.2.1, s3.2.2.2.2.1⟩
          rw [s3.2.2.2.2.2.1]
          exact nI_ne0 (by omega) (by omega)
        rw [eb_qt yes]
        exact ⟨fun _ => X, fun z => absurd z (by decide)⟩
      · rw [if_neg k30] at qf
        refine S_bad0 ht hn tk x hx S20 ko (fun z => k30 z.1) ⟨by omega, by omega, by omega⟩ (by omega) (by omega) (by omega) (fun x hx => by have := n4 x hx; omega) (fun z => ?_) (fun _ _ => by omega) (fun _ _ => ⟨fun z => ?_, fun z => ?_, fun _ => rfl⟩) (fun z => absurd rfl z) (fun g'' i'' fw tt ls => ?_)
        · refine Classical.byContradiction fun u => ?_
          have o0 := ee_op0 (n8.1 (by omega) u)
          have o1 := ee_op1 (n8.2.1 (Or.inl (by omega)) u)
          omega
        · exact ee_op2 (n8.2.2.1 (by omega)) z
        · exact ee_op3 (n8.2.2.2 (by omega)) z
        · obtain ⟨p', hp', tt⟩ := tt
          exact C_hx fw tt ls ko h89 (fun l h' K a1 a2 a3 a4 a5 a6 a7 a8 a9 => qf _ rfl l h' K a1 a2 a3 a4 a5 a6 ⟨p', hp', a7⟩ a8 a9)
  · rw [ee_i01] at z
    rw [if_neg z] at qf
    refine C_fl2 hn t2 2 (by decide) k2 (fun h4 F4 t4 => ⟨rfl, F4.1.ko k2, ?_⟩)
    have k4 := F4.1.ko k2
    refine C_adv (d := d) ht hn e1 t4 k4 (fun h5 F5 t5 => ⟨rfl, F5.1.ko k4, ?_⟩)
    have t5 : ee_XT h5 tx n p1 (some (ee_fa tx n p1 2)) := t5
    have L5 := (L2.fr F4.1 (by decide) (by decide) (by decide)).fr F5.1 (by decide) (by decide) (by decide)
    exact C_hx (d := d) (i := 0) ((w2.trans F4.fw).trans F5.fw) t5 ⟨[], [], 0, 0, 0, 0, 1, 1, L5, by decide, by decide, ⟨0, rfl⟩, by decide, fun x hx => absurd hx (List.not_mem_nil)⟩ ko h89 (fun l h' K a1 a2 a3 a4 a5 a6 a7 a8 a9 => qf _ rfl l h' K a1 a2 a3 a4 a5 a6 ⟨p1, e1, a7⟩ a8 a9)
end EBLAWW
