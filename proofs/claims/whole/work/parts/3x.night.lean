section EBNIGHT
variable {L : Nat} {xs : Nat → Int32}
def ec_lc (x : Int32) : Int32 := (1103515245 : Int32) * x + 12345
def ec_dn0 (x : Int32) (m : Nat) : Nat := x.toBitVec.toNat / 65536 % m
/-- a drawn deed, and what is drawn from then -/
def ec_nd (x : Int32) : Nat × Int32 :=
  if ec_dn0 (ec_lc x) 8 = 4 then (100 + ec_dn0 (ec_lc (ec_lc x)) 16, ec_lc (ec_lc x))
  else if ec_dn0 (ec_lc x) 8 = 5 then (1000 + 10 * ec_dn0 (ec_lc (ec_lc x)) 16 + ec_dn0 (ec_lc (ec_lc (ec_lc x))) 7, ec_lc (ec_lc (ec_lc x)))
  else if ec_dn0 (ec_lc x) 8 = 6 then (200 + ec_dn0 (ec_lc (ec_lc x)) 16, ec_lc (ec_lc x))
  else if ec_dn0 (ec_lc x) 8 = 7 then (300 + ec_dn0 (ec_lc (ec_lc x)) 10, ec_lc (ec_lc x))
  else (ec_dn0 (ec_lc (ec_lc x)) 4, ec_lc (ec_lc x))
theorem ec_dn_e (x : Int32) (m : Nat) (h0 : 0 < m) (hm : m < 2 ^ 31) : ((x.toUInt32 >>> ((16 : Int32).toUInt32 &&& Int32.toUInt32 31)).toInt32) - ((x.toUInt32 >>> ((16 : Int32).toUInt32 &&& Int32.toUInt32 31)).toInt32) / nI m * nI m = nI (ec_dn0 x m) := by
  have hx := x.toBitVec.isLt
  have e : (x.toUInt32 >>> ((16 : Int32).toUInt32 &&& Int32.toUInt32 31)).toInt32 = nI (x.toBitVec.toNat / 65536) := by
    obtain ⟨n, hn, rfl⟩ := wb_of32 x
    rw [pk_ushrN hn 16 16 (by decide), pk_tn hn]
  rw [e]
  exact pk_rem (by omega) h0 hm
theorem ec_dn_lt (x : Int32) {m : Nat} (h : 0 < m) : ec_dn0 x m < m := Nat.mod_lt _ h
theorem C_drawn {d : Nat} {h : eb_H} {Q : Option Value → eb_H → Prop} (m : Nat) (h0 : 0 < m) (hm : m < 2 ^ 31) (x : Int32) (hx : eb_I h s_draws 0 = x) (ko : eb_KO h) (w : Q (some (.int (nI (ec_dn0 (ec_lc x) m)))) (eb_sI h s_draws 0 (ec_lc x))) : eb_Ct d 2 [.ref s_draws, .int (nI m)] h Q := by
  refine T_X0_drawn _ ko ⟨fun _ => ⟨nI_ne0 h0 hm, ?_⟩, fun z => absurd (nI_le (a := 1) h0 hm) z⟩
  rw [hx]
  have e : eb_I (eb_sI h s_draws 0 ((1103515245 : Int32) * x + 12345)) s_draws 0 = ec_lc x := eb_I_sI'
  rw [e, ec_dn_e _ m h0 hm]
  exact w
theorem M_draw {d : Nat} {h : eb_H} {Q : Option Value → eb_H → Prop} (m : Nat) (h0 : 0 < m) (hm : m < 2 ^ 31) (x : Int32) (hx : eb_I h s_MO 20 = x) (ko : eb_KO h) (w : Q (some (.int (nI (ec_dn0 (ec_lc x) m)))) (eb_sI h s_MO 20 (ec_lc x))) : eb_Ct d 224 [.ref s_MO, .int (nI m)] h Q := by
  refine T_X11_draw _ ko ⟨nI_ne0 h0 hm, ?_⟩
  rw [hx]
  have e : eb_I (eb_sI h s_MO 20 ((1103515245 : Int32) * x + 12345)) s_MO 20 = ec_lc x := eb_I_sI'
  rw [e, ec_dn_e _ m h0 hm]
  exact w
theorem C_nd {d : Nat} {h : eb_H} {Q : Option Value → eb_H → Prop} (x : Int32) (hx : eb_I h s_draws 0 = x) (ko : eb_KO h) (w : ∀ h', ec_fr (fun c => c = s_draws) h h' → eb_I h' s_draws 0 = (ec_nd x).2 → Q (some (.int (nI (ec_nd x).1))) h') : eb_Ct (d + 1) 1 [.ref s_draws] h Q := by
  have F1 : ec_fr (fun c => c = s_draws) h (eb_sI h s_draws 0 (ec_lc x)) := ec_fr.rfl.sI rfl
  have l8 := ec_dn_lt (ec_lc x) (m := 8) (by omega)
  have l16 := ec_dn_lt (ec_lc (ec_lc x)) (m := 16) (by omega)
  have l7 := ec_dn_lt (ec_lc (ec_lc (ec_lc x))) (m := 7) (by omega)
  refine T_X0_nextDeed ko (C_drawn 8 (by omega) (by omega) x hx ko ⟨_, rfl, ko, ?_⟩)
  have w := w
  unfold ec_nd at w
  have q : ∀ c : Nat, c < 8 → (nI (ec_dn0 (ec_lc x) 8) = nI c ↔ ec_dn0 (ec_lc x) 8 = c) := fun c hc => nI_eq (by omega) (by omega)
  refine ⟨fun z => ?_, fun z => ?_, fun z => ?_, fun z => ?_, fun z4 z5 z6 z7 => ?_⟩
  · rw [if_pos ((q 4 (by omega)).mp z)] at w
    refine C_drawn 16 (by omega) (by omega) (ec_lc x) eb_I_sI' ko ⟨_, rfl, ko, ?_⟩
    rw [show (100 : Int32) + nI (ec_dn0 (ec_lc (ec_lc x)) 16) = nI (100 + ec_dn0 (ec_lc (ec_lc x)) 16) from ec_9 100 _]
    exact w _ (F1.sI rfl) eb_I_sI'
  · have z' := (q 5 (by omega)).mp z
    rw [if_neg (by omega), if_pos z'] at w
    refine C_drawn 16 (by omega) (by omega) (ec_lc x) eb_I_sI' ko ⟨_, rfl, ko, ?_⟩
    refine C_drawn 7 (by omega) (by omega) (ec_lc (ec_lc x)) eb_I_sI' ko ⟨_, rfl, ko, ?_⟩
    rw [show (10 : Int32) * nI (ec_dn0 (ec_lc (ec_lc x)) 16) = nI (10 * ec_dn0 (ec_lc (ec_lc x)) 16) from pk_mul 10 _, show (1000 : Int32) + nI (10 * ec_dn0 (ec_lc (ec_lc x)) 16) = nI (1000 + 10 * ec_dn0 (ec_lc (ec_lc x)) 16) from ec_9 1000 _, nI_add]
    exact w _ ((F1.sI rfl).sI rfl) eb_I_sI'
  · have z' := (q 6 (by omega)).mp z
    rw [if_neg (by omega), if_neg (by omega), if_pos z'] at w
    refine C_drawn 16 (by omega) (by omega) (ec_lc x) eb_I_sI' ko ⟨_, rfl, ko, ?_⟩
    rw [show (200 : Int32) + nI (ec_dn0 (ec_lc (ec_lc x)) 16) = nI (200 + ec_dn0 (ec_lc (ec_lc x)) 16) from ec_9 200 _]
    exact w _ (F1.sI rfl) eb_I_sI'
  · have z' := (q 7 (by omega)).mp z
    rw [if_neg (by omega), if_neg (by omega), if_neg (by omega), if_pos z'] at w
    refine C_drawn 10 (by omega) (by omega) (ec_lc x) eb_I_sI' ko ⟨_, rfl, ko, ?_⟩
    rw [show (300 : Int32) + nI (ec_dn0 (ec_lc (ec_lc x)) 10) = nI (300 + ec_dn0 (ec_lc (ec_lc x)) 10) from ec_9 300 _]
    exact w _ (F1.sI rfl) eb_I_sI'
  · rw [if_neg (fun y => z4 ((q 4 (by omega)).mpr y)), if_neg (fun y => z5 ((q 5 (by omega)).mpr y)), if_neg (fun y => z6 ((q 6 (by omega)).mpr y)), if_neg (fun y => z7 ((q 7 (by omega)).mpr y))] at w
    exact C_drawn 4 (by omega) (by omega) (ec_lc x) eb_I_sI' ko ⟨_, rfl, ko, w _ (F1.sI rfl) eb_I_sI'⟩
theorem M_nd {d : Nat} {h : eb_H} {Q : Option Value → eb_H → Prop} (x : Int32) (hx : eb_I h s_MO 20 = x) (ko : eb_KO h) (w : ∀ h', ec_fr (fun c => c = s_MO) h h' → (∀ j, j ≠ 20 → eb_I h' s_MO j = eb_I h s_MO j) → eb_I h' s_MO 20 = (ec_nd x).2 → Q (some (.int (nI (ec_nd x).1))) h') : eb_Ct (d + 1) 225 [.ref s_MO] h Q := by
  have F1 : ec_fr (fun c => c = s_MO) h (eb_sI h s_MO 20 (ec_lc x)) := ec_fr.rfl.sI rfl
  have l8 := ec_dn_lt (ec_lc x) (m := 8) (by omega)
  have l16 := ec_dn_lt (ec_lc (ec_lc x)) (m := 16) (by omega)
  have l7 := ec_dn_lt (ec_lc (ec_lc (ec_lc x))) (m := 7) (by omega)
  have o2 : ∀ j, j ≠ 20 → ∀ a b, eb_I (eb_sI (eb_sI h s_MO 20 a) s_MO 20 b) s_MO j = eb_I h s_MO j := fun j hj a b => by rw [eb_I_sI, if_neg hj, eb_I_sI, if_neg hj]
  refine T_X11_drawn ko (M_draw 8 (by omega) (by omega) x hx ko ⟨_, rfl, ko, ?_⟩)
  have w := w
  unfold ec_nd at w
  have q : ∀ c : Nat, c < 8 → (nI (ec_dn0 (ec_lc x) 8) = nI c ↔ ec_dn0 (ec_lc x) 8 = c) := fun c hc => nI_eq (by omega) (by omega)
  have q4 : (4 : Int32) ≤ nI (ec_dn0 (ec_lc x) 8) ↔ 4 ≤ ec_dn0 (ec_lc x) 8 := nI_leI (a := 4) (by decide) (by omega)
  have q7 : nI (ec_dn0 (ec_lc x) 8) = (7 : Int32) ↔ ec_dn0 (ec_lc x) 8 = 7 := q 7 (by omega)
  have q6 : nI (ec_dn0 (ec_lc x) 8) = (6 : Int32) ↔ ec_dn0 (ec_lc x) 8 = 6 := q 6 (by omega)
  have q44 : nI (ec_dn0 (ec_lc x) 8) = (4 : Int32) ↔ ec_dn0 (ec_lc x) 8 = 4 := q 4 (by omega)
  rw [q4, q7]
  refine ⟨fun z => ⟨fun z7 => ?_, fun z7 => ?_⟩, fun z => ?_⟩
  · refine M_draw 16 (by omega) (by omega) (ec_lc x) eb_I_sI' ko ⟨_, rfl, ko, ?_⟩
    rw [q44, q6]
    refine ⟨fun z4 => ⟨fun z6 => ?_, fun z6 => ?_⟩, fun z4 => ?_⟩
    · rw [if_neg z4, if_pos (by omega)] at w
      refine M_draw 7 (by omega) (by omega) (ec_lc (ec_lc x)) eb_I_sI' ko ⟨_, rfl, ko, ?_⟩
      rw [show (10 : Int32) * nI (ec_dn0 (ec_lc (ec_lc x)) 16) = nI (10 * ec_dn0 (ec_lc (ec_lc x)) 16) from pk_mul 10 _, show (1000 : Int32) + nI (10 * ec_dn0 (ec_lc (ec_lc x)) 16) = nI (1000 + 10 * ec_dn0 (ec_lc (ec_lc x)) 16) from ec_9 1000 _, nI_add]
      exact w _ ((F1.sI rfl).sI rfl) (fun j hj => by rw [eb_I_sI, if_neg hj]; exact o2 j hj _ _) eb_I_sI'
    · rw [if_neg z4, if_neg (by omega), if_pos z6] at w
      rw [show (200 : Int32) + nI (ec_dn0 (ec_lc (ec_lc x)) 16) = nI (200 + ec_dn0 (ec_lc (ec_lc x)) 16) from ec_9 200 _]
      exact w _ (F1.sI rfl) (fun j hj => o2 j hj _ _) eb_I_sI'
    · rw [if_pos z4] at w
      rw [show (100 : Int32) + nI (ec_dn0 (ec_lc (ec_lc x)) 16) = nI (100 + ec_dn0 (ec_lc (ec_lc x)) 16) from ec_9 100 _]
      exact w _ (F1.sI rfl) (fun j hj => o2 j hj _ _) eb_I_sI'
  · rw [if_neg (by omega), if_neg (by omega), if_neg (by omega), if_pos z7] at w
    refine M_draw 10 (by omega) (by omega) (ec_lc x) eb_I_sI' ko ⟨_, rfl, ko, ?_⟩
    rw [show (300 : Int32) + nI (ec_dn0 (ec_lc (ec_lc x)) 10) = nI (300 + ec_dn0 (ec_lc (ec_lc x)) 10) from ec_9 300 _]
    exact w _ (F1.sI rfl) (fun j hj => o2 j hj _ _) eb_I_sI'
  · rw [if_neg (by omega), if_neg (by omega), if_neg (by omega), if_neg (by omega)] at w
    exact M_draw 4 (by omega) (by omega) (ec_lc x) eb_I_sI' ko ⟨_, rfl, ko, w _ (F1.sI rfl) (fun j hj => o2 j hj _ _) eb_I_sI'⟩
theorem ec_nd_lt (x : Int32) : (ec_nd x).1 < 2000 := by
  have l16 := ec_dn_lt (ec_lc (ec_lc x)) (m := 16) (by omega)
  have l10 := ec_dn_lt (ec_lc (ec_lc x)) (m := 10) (by omega)
  have l4 := ec_dn_lt (ec_lc (ec_lc x)) (m := 4) (by omega)
  have l7 := ec_dn_lt (ec_lc (ec_lc (ec_lc x))) (m := 7) (by omega)
  unfold ec_nd
  split
  · dsimp only; omega
  · split
    · dsimp only; omega
    · split
      · dsimp only; omega
      · split
        · dsimp only; omega
        · dsimp only; omega
/-- a night -/
def ec_ni (V : eb_Va) : Nat → Int32 → Nat → eb_St → Nat × eb_St
  | 0, _, n, s => (n, s)
  | m + 1, x, n, s => if ec_dw V s (ec_nd x).1 = 0 then ec_ni V m (ec_nd x).2 (n + 1) (ec_ds V s (ec_nd x).1) else ec_ni V m (ec_nd x).2 n s
theorem ec_ni_0 {V : eb_Va} {m n : Nat} {x : Int32} {s : eb_St} (h : ec_dw V s (ec_nd x).1 = 0) : ec_ni V (m + 1) x n s = ec_ni V m (ec_nd x).2 (n + 1) (ec_ds V s (ec_nd x).1) := by
  show (if ec_dw V s (ec_nd x).1 = 0 then _ else _) = _
  rw [if_pos h]
theorem ec_ni_1 {V : eb_Va} {m n : Nat} {x : Int32} {s : eb_St} (h : ¬ ec_dw V s (ec_nd x).1 = 0) : ec_ni V (m + 1) x n s = ec_ni V m (ec_nd x).2 n s := by
  show (if ec_dw V s (ec_nd x).1 = 0 then _ else _) = _
  rw [if_neg h]
theorem ec_ni_le {V : eb_Va} : ∀ (m : Nat) (x : Int32) (n : Nat) (s : eb_St), n ≤ (ec_ni V m x n s).1 ∧ (ec_ni V m x n s).1 ≤ n + m ∧ ((ec_ni V m x n s).1 = n → (ec_ni V m x n s).2 = s)
  | 0, x, n, s => ⟨Nat.le_refl _, Nat.le_refl _, fun _ => rfl⟩
  | m + 1, x, n, s => by
    by_cases h : ec_dw V s (ec_nd x).1 = 0
    · rw [ec_ni_0 h]
      obtain ⟨a, b, _⟩ := ec_ni_le (V := V) m (ec_nd x).2 (n + 1) (ec_ds V s (ec_nd x).1)
      exact ⟨by omega, by omega, fun z => by omega⟩
    · rw [ec_ni_1 h]
      obtain ⟨a, b, c⟩ := ec_ni_le (V := V) m (ec_nd x).2 n s
      exact ⟨a, by omega, c⟩
theorem ec_ni_ok {V : eb_Va} (ok : eb_okV V) : ∀ (m : Nat) (x : Int32) (n : Nat) (s : eb_St), eb_okS V s → eb_okS V (ec_ni V m x n s).2
  | 0, _, _, _, h => h
  | m + 1, x, n, s, h => by
    by_cases z : ec_dw V s (ec_nd x).1 = 0
    · rw [ec_ni_0 z]; exact ec_ni_ok ok m _ _ _ (ec_ds_ok ok h _ z)
    · rw [ec_ni_1 z]; exact ec_ni_ok ok m _ _ _ h
/-- scratch of a night: now, a law's rows, the draws -/
def ec_sd (c : Nat) : Prop := ec_da s_now c ∨ c = s_draws
theorem C_ni {d : Nat} {h0 h : eb_H} {Q : Option Value → eb_H → Prop} {V : eb_Va} {v : Nat} (ev : eb_R h s_EB 2 = some v) (pv : PXV h v V) (ok : eb_okV V) (ko : eb_KO h) (N : Nat) (hN : N ≤ 40) : ∀ (m j n : Nat) (x : Int32) (g : eb_H) (s : eb_St), j + m = N → n ≤ j → eb_I g s_draws 0 = x → PXS g s_now s → eb_okS V s → ec_gf ec_sd h g → (∀ g', ec_gf ec_sd h g' → PXS g' s_now (ec_ni V m x n s).2 → eb_KO g' → ((nI (ec_ni V m x n s).1 ≤ 0 → Q (some (.int (nI (ec_ni V m x n s).1))) g') ∧ (¬ (nI (ec_ni V m x n s).1 ≤ 0) → eb_Ct (d + 6) 42 [.ref s_past, .ref s_before] g' (fun r h3 => r = none ∧ eb_KO h3 ∧ Q (some (.int (nI (ec_ni V m x n s).1))) h3)))) → eb_Sn (d + 7) m_X10_night h0 38 [(0, .ref s_EB), (2, .int (nI N)), (3, .int (nI n)), (4, .int (nI j))] [] g Q := by
  have sdV : ∀ c, ec_sd c → ¬ eb_isV c := fun c z => by
    rcases z with z | rfl
    · exact ec_sn_V c (ec_dn c z)
    · unfold eb_isV eb_ix s_draws; omega
  intro m
  induction m with
  | zero =>
    intro j n x g s hj hn hx ps os G w1
    refine b_X10_night_38 (d := d + 6) _ _ _ (G.ko ko) ⟨fun _ => w1 g G ps (G.ko ko), fun z => ?_⟩
    exfalso
    apply z
    exact nI_le (by omega) (by omega)
  | succ m ih =>
    intro j n x g s hj hn hx ps os G w1
    have kog := G.ko ko
    refine b_X10_night_38 (d := d + 6) _ _ _ kog ⟨fun z => ?_, fun _ => ⟨v, by rw [G.R]; exact ev, pv.1.1, ?_⟩⟩
    · exfalso
      exact nI_ge (by omega) (by omega) z
    · refine C_nd x hx kog (fun h9 F9 e9 => ⟨_, rfl, F9.ko kog, ?_⟩)
      have ko9 := F9.ko kog
      have G9 : ec_gf ec_sd h h9 := G.trans (F9.gr.weak (fun c z => Or.inr z))
      have nlt := ec_nd_lt x
      rw [nI_l (by omega), nI_1, nI_1]
      have xn : ec_xn (lN (ec_nd x).1) = (ec_nd x).1 := ec_xn_lN (by omega)
      refine C_dd (pv.gr G9 sdV) (ps.gr F9.gr (by decide) (by decide)) ec_nowS.1 ec_nowS.2.2.2 ok os _ ko9 (fun h' F z => ⟨_, rfl, F.ko ko9, fun _ => ?_, fun y => ?_⟩) (fun h' z ps' F => ⟨_, rfl, F.ko ko9, fun y => absurd rfl y, fun _ => ?_⟩)
      · rw [xn] at z
        have ps' : PXS h' s_now s := (ps.gr F9.gr (by decide) (by decide)).gr F.gr ec_nowS.1.n19.1 ec_nowS.1.n19.2
        have e' : eb_I h' s_draws 0 = (ec_nd x).2 := by rw [F.2.2 s_draws (by unfold ec_19 eb_kd s_draws; omega)]; exact e9
        refine ih (j + 1) n (ec_nd x).2 h' s (by omega) (by omega) e' ps' os (G9.trans (F.gr.weak (fun c y => Or.inl (Or.inl y)))) (fun g' a b c => ?_)
        have := w1 g' a
        rw [ec_ni_1 z] at this
        exact this b c
      · exfalso
        have := ec_dw_lt (V := V) (s := s) (ec_xn (lN (ec_nd x).1))
        exact nI_ne0 (by omega) (by omega) y
      · rw [xn] at z ps'
        have e' : eb_I h' s_draws 0 = (ec_nd x).2 := by rw [F.2.2 s_draws (by unfold ec_da ec_19 eb_kd s_draws s_now; omega)]; exact e9
        refine ih (j + 1) (n + 1) (ec_nd x).2 h' _ (by omega) (by omega) e' ps' (ec_ds_ok ok os _ z) (G9.trans (F.gr.weak (fun c y => Or.inl y))) (fun g' a b c => ?_)
        have := w1 g' a
        rw [ec_ni_0 z] at this
        exact this b c
theorem M_ni {d : Nat} {h0 h : eb_H} {Q : Option Value → eb_H → Prop} {w : eb_Wo} (ok : eb_okW w) (N : Nat) (hN : N ≤ 40) : ∀ (m j n : Nat) (x : Int32) (g : eb_H) (s : eb_St), j + m = N → n ≤ j → eb_I g s_MO 20 = x → PM (w.setNP s w.past) g → eb_okS w.va s → eb_fm h g → (∀ g', eb_fm h g' → PM (w.setNP (ec_ni w.va m x n s).2 w.past) g' → eb_I g' s_m_was = eb_I g s_m_was → ((nI (ec_ni w.va m x n s).1 ≤ 0 → Q (some (.int (nI (ec_ni w.va m x n s).1))) g') ∧ (¬ (nI (ec_ni w.va m x n s).1 ≤ 0) → eb_Ct (d + 4) 208 [.ref s_MO] g' (fun r h3 => r = none ∧ eb_KO h3 ∧ Q (some (.int (nI (ec_ni w.va m x n s).1))) h3)))) → eb_Sn (d + 5) m_X11_night h0 34 [(0, .ref s_MO), (2, .int (nI N)), (3, .int (nI n)), (4, .int (nI j))] [] g Q := by
  intro m
  induction m with
  | zero =>
    intro j n x g s hj hn hx pm os G w1
    refine b_X11_night_34 (d := d + 4) _ _ _ G.1 ⟨fun _ => w1 g G pm rfl, fun z => ?_⟩
    exfalso
    apply z
    exact nI_le (by omega) (by omega)
  | succ m ih =>
    intro j n x g s hj hn hx pm os G w1
    refine b_X11_night_34 (d := d + 4) _ _ _ G.1 ⟨fun z => ?_, fun _ => ?_⟩
    · exfalso
      exact nI_ge (by omega) (by omega) z
    · refine M_nd x hx G.1 (fun h6 F6 o6 e6 => ⟨_, rfl, F6.ko G.1, ?_⟩)
      have ko6 := F6.ko G.1
      have nlt := ec_nd_lt x
      have p6 : PM (w.setNP s w.past) h6 := pm.mvD (o6 5 (by decide)) (o6 13 (by decide)) (o6 14 (by decide)) (fun c y => F6.2.2 c (by rcases y with rfl | rfl | rfl | rfl | rfl <;> decide)) (by rw [F6.2.1])
      have f6 : eb_fm h h6 := G.trans (F6.fm G.1 (fun c z => by rw [z]; unfold eb_isM eb_ix s_MO; omega))
      rw [nI_l (by omega), nI_1, nI_1]
      have xn : ec_xn (lN (ec_nd x).1) = (ec_nd x).1 := ec_xn_lN (by omega)
      refine M_wn (d := d) (V := w.va) (s := s) p6.va p6.now ok.va os (lN (ec_nd x).1) ko6 (fun h9 F9 => ⟨_, rfl, F9.ko ko6, ?_⟩)
      rw [xn]
      have p9 := p6.mw F9
      have f9 : eb_fm h h9 := f6.trans (F9.fm ko6 ec_mw_isM)
      have w9 : eb_I h9 s_m_was = eb_I g s_m_was := by rw [F9.2.2 _ (by unfold ec_mw; decide), F6.2.2 _ (by decide)]
      have e9 : eb_I h9 s_MO 20 = (ec_nd x).2 := by rw [F9.2.2 s_MO (by unfold ec_mw; decide)]; exact e6
      have dwl := ec_dw_lt (V := w.va) (s := s) (ec_nd x).1
      by_cases z : ec_dw w.va s (ec_nd x).1 = 0
      · refine ⟨fun _ => ?_, fun y => absurd (by rw [z]; rfl) y⟩
        have ok6 : eb_okW (w.setNP s w.past) := ok.setNP s w.past os ok.len (fun i hi => by
          have := ok.past i hi
          rw [ec_getD hi w.now ec_s0] at this
          exact this)
        refine M_do (d := d) (V := w.va) (s := s) p9.va p9.now ok.va os _ z f9.1 (fun h10 pn F10 a10 => ⟨rfl, F10.ko f9.1, ?_⟩)
        have F10' : ec_fr (fun c => ec_mw c ∨ c = s_m_all ∨ c = s_m_was) h9 h10 := F10.weak (fun c z => by
          rcases z with z | z
          · exact Or.inl z
          · exact Or.inr (Or.inl z))
        have p10 : PM (w.setNP (ec_ds w.va s (ec_nd x).1) w.past) h10 := p9.now1 ok6 _ F10' a10 pn
        refine ih (j + 1) (n + 1) (ec_nd x).2 h10 _ (by omega) (by omega) (by rw [F10.2.2 s_MO (by unfold ec_mw; decide)]; exact e9) p10 (ec_ds_ok ok.va os _ z) (f9.trans (F10'.fm f9.1 ec_mw3)) (fun g' a b e => ?_)
        have := w1 g' a
        rw [ec_ni_0 z] at this
        exact this b (by rw [e, F10.2.2 s_m_was (by unfold ec_mw; decide), w9])
      · refine ⟨fun y => absurd y (nI_ne0 (by omega) (by omega)), fun _ => ?_⟩
        refine ih (j + 1) n (ec_nd x).2 h9 s (by omega) (by omega) e9 p9 os f9 (fun g' a b e => ?_)
        have := w1 g' a
        rw [ec_ni_1 z] at this
        exact this b (by rw [e, w9])
/-- 17: night -/
theorem c_night (k : Nat) (h : eb_H) (v1 v2 : Int32) (inv : eb_Inv L xs k h) : eb_Pr 111 226 [.int v1, .int v2] (eb_Inv L xs (k + 1)) h := by
  refine eb_pr inv (fun w ok => ?_)
  have x2 : (¬ (v2 < (1 : Int32))) ∧ v2 ≤ (40 : Int32) ↔ (1 ≤ v2.toInt ∧ v2.toInt ≤ 40) := by rw [eb_i32, eb_i32e, show (1 : Int32).toInt = 1 by decide, eb_c40]; omega
  have m2 : ((¬ (v2.toInt64 < 1)) ∧ (¬ (40 < v2.toInt64))) ↔ (1 ≤ v2.toInt ∧ v2.toInt ≤ 40) := by rw [eb_l64a, eb_l64b, ec_d1, eb_d40]; omega
  by_cases hy : 1 ≤ v2.toInt ∧ v2.toInt ≤ 40
  · obtain ⟨N, hN1, hN, rfl⟩ : ∃ N, 1 ≤ N ∧ N ≤ 40 ∧ v2 = nI N := ⟨v2.toInt.toNat, by omega, by omega, eb_ofn (by omega)⟩
    obtain ⟨al1, al2, al4⟩ := ec_ni_le (V := w.va) N v1 0 w.now
    have os := ec_ni_ok ok.va N v1 0 w.now ok.now
    refine ⟨nI (ec_ni w.va N v1 0 w.now).1, if (ec_ni w.va N v1 0 w.now).1 = 0 then w else w.setNP (ec_ni w.va N v1 0 w.now).2 ((w.now :: w.past).take 10), ?_, ?_, eb_XS.of (fun h ko p Q q => ?_), eb_MS.of (fun h g ko eg kog p Q q => ?_)⟩
    · split
      · exact ok
      · exact ok.setN1 _ os
    · split
      · omega
      · show w.fed ≤ _
        omega
    · obtain ⟨v, ev, pv⟩ := p.va
      refine T_X10_night (d := 1298) _ _ ko ⟨fun z => absurd z (x2.mpr hy).1, fun _ => ⟨fun _ => ?_, fun z => absurd (x2.mpr hy).2 z⟩⟩
      refine C_before (d := 1297) p ko (fun h1 pb G => ⟨rfl, G.ko ko, ?_⟩)
      have F2 : ec_fr (fun c => c = s_draws) h1 (eb_sI h1 s_draws 0 v1) := ec_fr.rfl.sI rfl
      have ko2 := F2.ko (G.ko ko)
      have pv2 : PXV (eb_sI h1 s_draws 0 v1) v w.va := (pv.gr G ec_sc_V).gr F2.gr (fun c z => by rw [z]; unfold eb_isV eb_ix s_draws; omega)
      have pn2 : PXS (eb_sI h1 s_draws 0 v1) s_now w.now := (p.now.gr G ec_nowS.2.1 ec_nowS.2.2.1).gr F2.gr (by decide) (by decide)
      have pb2 : PXS (eb_sI h1 s_draws 0 v1) s_before w.now := pb.gr F2.gr (by decide) (by decide)
      refine C_ni (d := 1292) (by rw [show eb_R (eb_sI h1 s_draws 0 v1) = eb_R h1 from rfl, G.R]; exact ev) pv2 ok.va ko2 N hN N 0 0 v1 _ w.now (by omega) (by omega) eb_I_sI' pn2 ok.now ec_gf.rfl (fun g' G' ps' kog => ?_)
      have pb' : PXS g' s_before w.now := pb2.gr G' (by unfold ec_sd ec_da ec_19 eb_kd s_before s_now s_draws; omega) (by unfold ec_sd ec_da ec_19 eb_kd s_before s_now s_draws; omega)
      have G3 : ec_gf (fun c => ec_sn c ∨ c = s_draws) h g' := ((G.weak (fun c z => Or.inl (Or.inl z))).trans (F2.gr.weak (fun c z => Or.inr z))).trans (G'.weak (fun c z => by
        rcases z with z | z
        · exact Or.inl (ec_dn c z)
        · exact Or.inr z))
      have dM : ∀ c, ec_sn c ∨ c = s_draws → ¬ ec_isM c := fun c z => by
        rcases z with z | rfl
        · exact ec_sn_M c z
        · unfold ec_isM eb_isM eb_ix s_draws; omega
      have dW : ∀ c, (eb_isW c ∧ ¬ ec_pst c ∧ ¬ (15 ≤ eb_ix c ∧ eb_ix c ≤ 16) ∨ c = s_flights) → ¬ (ec_sn c ∨ c = s_draws) := fun c z y => by
        rcases y with y | rfl
        · exact ec_sn_W c z y
        · rcases z with z | z
          · have := z.1
            unfold eb_isW eb_ix s_draws at this
            omega
          · exact absurd z (by decide)
      have pp : PXP g' w.past := p.pp.mv (G3.2.weak (fun c z y => by
        unfold ec_pst at z
        rcases y with y | rfl
        · unfold ec_sn ec_sc ec_19 at y
          omega
        · unfold eb_ix s_draws at z
          omega))
      refine ⟨fun z => ?_, fun z => ?_⟩
      · have z0 : (ec_ni w.va N v1 0 w.now).1 = 0 := by
          refine Classical.byContradiction fun y => ?_
          exact nI_nle (by omega) (by omega) z
        rw [al4 z0] at ps'
        rw [if_pos z0] at q
        exact q g' (G3.fx ko dM) (p.setNP w.now w.past (G3.2.weak dW) ps' pp)
      · have z0 : ¬ (ec_ni w.va N v1 0 w.now).1 = 0 := fun y => z (by rw [y]; exact Int32.le_refl _)
        rw [if_neg z0] at q
        refine C_rem (d := 1296) s_before w.now w.past ok.len ec_before.1 (by unfold ec_pst eb_ix s_before; omega) pb' pp kog (fun h3 a nz sm => ?_)
        have pn3 : PXS h3 s_now (ec_ni w.va N v1 0 w.now).2 := by
          have e1 := sm s_now (by unfold ec_pst eb_ix s_now; omega)
          have e2 := sm (s_now + 524807) (by unfold ec_pst eb_ix s_now; omega)
          exact ps'.mv e1.1 e1.2.2 e2.1
        have fx3 : eb_fx h h3 := (G3.fx ko dM).trans (eb_fx.of kog nz (sm.weak (fun c z y => by
          unfold ec_isM eb_isM at z
          unfold ec_pst at y
          omega)))
        refine ⟨rfl, fx3.1, q h3 fx3 (p.setNP _ _ ?_ pn3 a)⟩
        refine eb_same.trans (G3.2.weak dW) (sm.weak (fun c z => ?_))
        rcases z with z | rfl
        · exact z.2.1
        · unfold ec_pst eb_ix s_flights; omega
    · refine T_X11_night (d := 1298) _ _ ko ⟨fun _ => ?_, fun z => absurd (m2.mpr hy) z⟩
      rw [← eg]
      refine M_keep p kog (fun h4 F4 p4 wq => ⟨rfl, F4.ko kog, ?_⟩)
      have ko4 := F4.ko kog
      have mMO : eb_isM s_MO := by unfold eb_isM eb_ix s_MO; omega
      have p5 : PM (w.setNP w.now w.past) (eb_sI h4 s_MO 20 v1) := p4.mvD (by rw [eb_I_sI, if_neg (by decide)]) (by rw [eb_I_sI, if_neg (by decide)]) (by rw [eb_I_sI, if_neg (by decide)]) (fun c y => eb_I_sIn (by rcases y with rfl | rfl | rfl | rfl | rfl <;> decide)) rfl
      have f5 : eb_fm g (eb_sI h4 s_MO 20 v1) := (F4.fm kog (fun c z => ec_mw3 c (Or.inr (Or.inr z)))).sI mMO
      refine M_ni (d := 1294) (h := g) ok N hN N 0 0 v1 _ w.now (by omega) (by omega) eb_I_sI' p5 ok.now f5 (fun g' f' p' w' => ⟨fun z => ?_, fun z => ?_⟩)
      · have z0 : (ec_ni w.va N v1 0 w.now).1 = 0 := by
          refine Classical.byContradiction fun y => ?_
          exact nI_nle (by omega) (by omega) z
        rw [al4 z0] at p'
        rw [if_pos z0] at q
        exact q g' f' p'
      · have z0 : ¬ (ec_ni w.va N v1 0 w.now).1 = 0 := fun y => z (by rw [y]; exact Int32.le_refl _)
        rw [if_neg z0] at q
        refine M_rem _ os p' ok (by rw [w', eb_I_sIn (by decide)]; exact wq) f'.1 (fun h4 fm p4 pn4 w4 => ⟨rfl, fm.1, ?_⟩)
        exact q h4 (f'.trans fm) p4
  · refine ⟨-3, w, ok, by omega, eb_XS.of (fun h ko p Q q => ?_), eb_MS.of (fun h g ko eg kog p Q q => ?_)⟩
    · have fin := q h (eb_fx.rfl ko) p
      exact T_X10_night (d := 1298) _ _ ko ⟨fun _ => fin, fun z => ⟨fun y => absurd (x2.mp ⟨z, y⟩) hy, fun _ => fin⟩⟩
    · refine T_X11_night (d := 1298) _ _ ko ⟨fun z => absurd (m2.mp z) hy, fun _ => ?_⟩
      rw [← eg]
      exact q g (eb_fm.rfl kog) p
end EBNIGHT
