section EBFLOWN
variable {L : Nat} {xs : Nat → Int32}
/-! flights: the step depends on things, drifts and the wind alone, besides where the bat is and its echoes -/
def ec_sim (s s' : eb_St) : Prop := s'.wind = s.wind ∧ s'.drifts = s.drifts ∧ ∀ j, s'.th j = s.th j
theorem ec_sim.rfl {s : eb_St} : ec_sim s s := ⟨Eq.refl _, Eq.refl _, fun _ => Eq.refl _⟩
theorem ec_sim.trans {s s1 s2 : eb_St} (a : ec_sim s s1) (b : ec_sim s1 s2) : ec_sim s s2 := ⟨b.1.trans a.1, b.2.1.trans a.2.1, fun j => (b.2.2 j).trans (a.2.2 j)⟩
theorem ec_sim.k {s s' : eb_St} (h : ec_sim s s') (c : Nat) : s'.k c = s.k c := by unfold eb_St.k; rw [h.2.2]
theorem ec_sim.D {s s' : eb_St} (h : ec_sim s s') : s'.D = s.D := by unfold eb_St.D; rw [h.2.1]
theorem ec_sim.wv {s s' : eb_St} (h : ec_sim s s') (V : eb_Va) (c to l : Nat) : ec_wv V s' c to l = ec_wv V s c to l := by unfold ec_wv; rw [h.1, h.2.2]
theorem ec_sim.may {s s' : eb_St} (h : ec_sim s s') (V : eb_Va) (c e to : Nat) : ec_may V s' c e to = ec_may V s c e to := by unfold ec_may; rw [h.wv]
theorem ec_sim.tk {s s' : eb_St} (h : ec_sim s s') (V : eb_Va) (c e to : Nat) : ec_tk V s' c e to = ec_tk V s c e to := by unfold ec_tk; rw [h.wv, h.k]
theorem ec_sim.tn {s s' : eb_St} (h : ec_sim s s') (V : eb_Va) (c e to : Nat) : ec_tn V s' c e to = ec_tn V s c e to := by unfold ec_tn; rw [h.tk, h.k]
theorem ec_sim.ne {s s' : eb_St} (h : ec_sim s s') (V : eb_Va) (c e to : Nat) : ec_ne V s' c e to = ec_ne V s c e to := by unfold ec_ne; rw [h.tn]
theorem ec_sim.why {s s' : eb_St} (h : ec_sim s s') (V : eb_Va) (D c e way : Nat) : ec_why V s' D c e way = ec_why V s D c e way := by
  unfold ec_why
  cases ec_nb V.R V.W c way with
  | none => rfl
  | some to => dsimp only; rw [h.may]
theorem ec_sim_fl (V : eb_Va) (s : eb_St) (to : Nat) : ec_sim s (ec_fl V s to) := ⟨rfl, rfl, fun j => ec_fl_th j⟩
/-- a told flight: the echoes at its end -/
def ec_fo (V : eb_Va) (s : eb_St) (f : Nat → Nat) : Nat → Nat → Nat → Nat → Option Nat
  | 0, _, _, e => some e
  | m + 1, j, c, e => if ec_why V s s.D c e (f j) = 0 then (match ec_nb V.R V.W c (f j) with
    | some to => ec_fo V s f m (j + 1) to (ec_ne V s c e to)
    | none => none) else none
theorem ec_why_nb {V : eb_Va} {s : eb_St} {D c e way : Nat} (h : ec_why V s D c e way = 0) : ∃ to, ec_nb V.R V.W c way = some to := by
  unfold ec_why at h
  cases hn : ec_nb V.R V.W c way with
  | none => rw [hn] at h; exact absurd h (by dsimp only; decide)
  | some to => exact ⟨to, rfl⟩
theorem ec_fo_1 {V : eb_Va} {s : eb_St} {f : Nat → Nat} {m j c e : Nat} (h : ¬ ec_why V s s.D c e (f j) = 0) : ec_fo V s f (m + 1) j c e = none := by
  show (if ec_why V s s.D c e (f j) = 0 then _ else none) = none
  rw [if_neg h]
theorem ec_fo_0 {V : eb_Va} {s : eb_St} {f : Nat → Nat} {m j c e to : Nat} (h : ec_why V s s.D c e (f j) = 0) (hn : ec_nb V.R V.W c (f j) = some to) : ec_fo V s f (m + 1) j c e = ec_fo V s f m (j + 1) to (ec_ne V s c e to) := by
  show (if ec_why V s s.D c e (f j) = 0 then (match ec_nb V.R V.W c (f j) with
    | some to => ec_fo V s f m (j + 1) to (ec_ne V s c e to)
    | none => none) else none) = _
  rw [if_pos h, hn]
def ec_fv (t : eb_Ty) (j : Nat) : Nat := (t.val j).toInt.toNat
def ec_gd (t : eb_Ty) : Prop := 1 ≤ t.size.toInt ∧ t.size.toInt ≤ 12 ∧ ∀ j : Nat, (j : Int) < t.size.toInt → 0 ≤ (t.val j).toInt ∧ (t.val j).toInt < 4
theorem ec_gd.w {t : eb_Ty} (g : ec_gd t) {j : Nat} (h : (j : Int) < t.size.toInt) : ec_fv t j < 4 ∧ (t.val j).toInt32 = nI (ec_fv t j) := by
  obtain ⟨a, b⟩ := g.2.2 j h
  refine ⟨by unfold ec_fv; omega, ?_⟩
  obtain ⟨k, hk, e⟩ := pk_lOf (x := t.val j) (by rw [Int64.lt_iff_toInt_lt, eb_z64]; omega)
  unfold ec_fv
  rw [e, lN_i, pk_lT hk]
  rfl
theorem C_cf {d : Nat} {h0 h : eb_H} {Q : Option Value → eb_H → Prop} {w : eb_Wo} (p : PX w h) (ok : eb_okW w) (ko : eb_KO h) (i : Nat) (hi : i < 4) (t : eb_Ty) (ht : w.tray i = some t) (gd : ec_gd t) (s0 : eb_St) (x : Nat) (hx : x < 64) : ∀ (m j : Nat) (g : eb_H) (s : eb_St), j + m = t.size.toInt.toNat → PXS g s_trial s → eb_okS w.va s → ec_sim s0 s → ec_gf ec_sc h g → (∀ g', ec_gf ec_sc h g' → ∀ y : Int32, (y = 0 ↔ ¬ ec_fo w.va s0 (ec_fv t) m j s.b s.e = some x) → Q (some (.int y)) g') → eb_Sn (d + 6) m_X10_couldFly h0 2 [(0, .ref s_EB), (1, .ref (s_trays_0 + 1048576 * i)), (2, .int (nI x)), (3, .int (nI j))] [] g Q := by
  obtain ⟨v, ev, pv⟩ := p.va
  obtain ⟨o1, o2⟩ := ok.tray i t hi ht
  have T := p.tray i hi
  rw [ht] at T
  obtain ⟨t1, t2, t3, t4⟩ := T
  have tsz : t.size = nI t.size.toInt.toNat := eb_ofn o2.1
  have hN : t.size.toInt.toNat ≤ 40 := by omega
  have nt : ¬ ec_sc (s_trays_0 + 1048576 * i) ∧ ¬ ec_sc (s_trays_0_values + 1048576 * i) := by
    unfold ec_sc ec_19 eb_kd eb_ix s_trays_0 s_trays_0_values; omega
  intro m
  induction m with
  | zero =>
    intro j g s hj ps os sm G w1
    obtain ⟨n1, n2, n3, n4, n5, n6, n7⟩ := os.N ok.va
    have k3 : eb_I g (s_trays_0 + 1048576 * i) 3 = nI t.size.toInt.toNat := by rw [G.at nt.1, t3]; exact tsz
    obtain ⟨r1, r2, r3, r4, r5⟩ := eb_trs (G.ko ko) hi
    refine b_X10_couldFly_2 (d := d + 5) _ _ _ r2 (G.ko ko) ⟨fun _ => w1 g G _ ?_, fun z => ?_⟩
    · rw [eb_q0, ps.2.1, n2, nI_eq (by omega) (by omega)]
      show _ ↔ ¬ some s.e = some x
      simp
    · exfalso
      apply z
      rw [k3]
      exact nI_le (by omega) (by omega)
  | succ m ih =>
    intro j g s hj ps os sm G w1
    have kog := G.ko ko
    obtain ⟨n1, n2, n3, n4, n5, n6, n7⟩ := os.N ok.va
    obtain ⟨r1', r2', r3', r4', r5', r6', r7', r8', r9', r10', _⟩ := ok.va.RW
    have k3 : eb_I g (s_trays_0 + 1048576 * i) 3 = nI t.size.toInt.toNat := by rw [G.at nt.1, t3]; exact tsz
    obtain ⟨r1, r2, r3, r4, r5⟩ := eb_trs kog hi
    obtain ⟨fl, fe⟩ := gd.w (j := j) (by omega)
    refine b_X10_couldFly_2 (d := d + 5) _ _ _ r2 kog ⟨fun z => ?_, fun _ => ⟨v, by rw [G.R]; exact ev, pv.1.1, fun z => absurd z (nI_pos (by omega)), fun _ => ⟨_, r3, r4, fun z => ?_, fun _ => ⟨?_, ?_⟩⟩⟩⟩
    · exfalso
      rw [k3] at z
      exact nI_ge (by omega) (by omega) z
    · exfalso
      rw [r5] at z
      exact nI_ge (a := j) (b := 40) (by omega) (by omega) z
    · rw [r5]; exact vp_in_nI (by omega) (by omega)
    · have ej : eb_J g (s_trays_0_values + 1048576 * i) (nI j).toNatClampNeg = t.val j := by
        rw [eb_cln (by omega), (G.2 _ nt.2).2.1]
        exact t4 j (by omega) (by omega)
      rw [ej, fe, nI_1]
      have ewy : ec_why w.va s s.D s.b s.e (ec_fv t j) = ec_why w.va s0 s0.D s.b s.e (ec_fv t j) := by rw [sm.D, sm.why]
      refine C_ms (pv.gr G ec_sc_V) ps ec_trial.1 ec_trial.2.2.2 ok.va os (ec_fv t j) fl kog (fun h' F z => ⟨_, rfl, F.ko kog, fun y => ?_, fun _ => ?_⟩) (fun h' to hn hD hm eo ps' F => ⟨_, rfl, F.ko kog, fun _ => ?_, fun y => ?_⟩)
      · exfalso
        rw [eb_i32] at z
        rw [eb_i32e] at y
        omega
      · have nz : ¬ ec_why w.va s0 s0.D s.b s.e (ec_fv t j) = 0 := fun y => by
          rw [← ewy] at y
          obtain ⟨to, hn, _, _, eo⟩ := ec_out_why.1 y
          rw [eo] at z
          have tl := ec_tn_le (V := w.va) (c := s.b) (e := s.e) (n7 to (by have := ec_nb_lt n4 r6' hn; omega)).2
          exact nI_pos (by omega) z
        refine w1 h' (G.trans (F.gr.weak ec_19_sc)) 0 ?_
        rw [ec_fo_1 nz]
        simp
      · have hto := ec_nb_lt n4 r6' hn
        have wz : ec_why w.va s0 s0.D s.b s.e (ec_fv t j) = 0 := by
          rw [← ewy]
          unfold ec_why
          rw [hn]
          dsimp only
          rw [if_neg hD, if_pos hm]
        have hne := ec_ne_lt (V := w.va) (s := s) (c := s.b) (e := s.e) (to := to) n5 (n7 to (by omega)).2
        have eb' : (ec_fl w.va s to).b = to := by
          show (nI to).toInt.toNat = to
          rw [nI_toInt (by omega)]; rfl
        have ee' : (ec_fl w.va s to).e = ec_ne w.va s0 s.b s.e to := by
          show (nI (ec_ne w.va s s.b s.e to)).toInt.toNat = _
          rw [nI_toInt (by omega), ← sm.ne]; rfl
        refine ih (j + 1) h' _ (by omega) ps' (ec_fl_ok ok.va os hto) (sm.trans (ec_sim_fl _ _ _)) (G.trans (F.gr.weak (fun c z => ?_))) (fun g' a y hy => ?_)
        · rcases z with z | z
          · exact Or.inl z
          · rw [z]; exact ec_trial.2.1
        · refine w1 g' a y ?_
          rw [hy, ec_fo_0 wz hn, eb', ee']
      · exfalso
        apply y
        have tl := ec_tn_le (V := w.va) (c := s.b) (e := s.e) (n7 to (by have := ec_nb_lt n4 r6' hn; omega)).2
        exact nI_pos' (by omega)
theorem M_cf {d : Nat} {h0 h : eb_H} {Q : Option Value → eb_H → Prop} {w : eb_Wo} (pm : PM w h) (ok : eb_okW w) (ko : eb_KO h) (i : Nat) (hi : i < 4) (t : eb_Ty) (ht : w.tray i = some t) (gd : ec_gd t) (x : Nat) (hx : x < 64) : ∀ (m j c e : Nat) (g : eb_H), j + m = t.size.toInt.toNat → c < w.va.R * w.va.W → e < 64 → ec_fr ec_mw h g → (∀ g', ec_fr ec_mw h g' → ∀ y : Int32, (y = 0 ↔ ¬ ec_fo w.va w.now (ec_fv t) m j c e = some x) → Q (some (.int y)) g') → eb_Sn (d + 3) m_X11_isFlown h0 8 [(0, .ref s_MO), (1, .int (nI i)), (2, .int (nI x)), (3, .int (nI (64 * c + e))), (4, .int (nI j))] [] g Q := by
  obtain ⟨o1, o2⟩ := ok.tray i t hi ht
  obtain ⟨n1, n2, n3, n4, n5, n6, n7⟩ := ok.now.N ok.va
  obtain ⟨r1', r2', r3', r4', r5', r6', r7', r8', r9', r10', _⟩ := ok.va.RW
  have tsz : t.size = nI t.size.toInt.toNat := eb_ofn o2.1
  have hN : t.size.toInt.toNat ≤ 40 := by omega
  intro m
  induction m with
  | zero =>
    intro j c e g hj hc he F w1
    have T := (pm.mw F).tray i hi
    rw [ht] at T
    have k3 : eb_I g s_m_rowMany i = nI t.size.toInt.toNat := T.2.1.trans tsz
    obtain ⟨q1, q2⟩ := ec_sI (c := c) (by omega) he
    refine b_X11_isFlown_8 (d := d + 2) _ _ _ _ (F.ko ko) ?_
    rw [eb_cln (n := i) (by omega), k3, q2]
    refine ⟨vp_in_nI hi (by omega), fun _ => w1 g F _ ?_, fun z => ?_⟩
    · rw [eb_q0, nI_eq (by omega) (by omega)]
      show _ ↔ ¬ some e = some x
      simp
    · exfalso
      apply z
      exact nI_le (by omega) (by omega)
  | succ m ih =>
    intro j c e g hj hc he F w1
    have kog := F.ko ko
    have pg := pm.mw F
    have T := pg.tray i hi
    rw [ht] at T
    have k3 : eb_I g s_m_rowMany i = nI t.size.toInt.toNat := T.2.1.trans tsz
    have idx := eb_4i (x := nI i) (y := nI j) (by rw [nI_toInt (by omega)]; omega) (by rw [nI_toInt (by omega)]; omega)
    rw [nI_toInt (by omega), nI_toInt (by omega), Int.toNat_natCast, Int.toNat_natCast] at idx
    have kv := T.2.2 j (by omega) (by omega)
    obtain ⟨fl, fe⟩ := gd.w (j := j) (by omega)
    have e50 : eb_I g s_m_all (50 : Int32).toNatClampNeg = nI w.now.D := pg.now.2.2.2.2.1.trans n3
    refine b_X11_isFlown_8 (d := d + 2) _ _ _ _ kog ?_
    rw [idx, eb_cln (n := i) (by omega), eb_cln (n := 40 * i + j) (by omega), k3, kv, fe, e50, nI_1]
    refine ⟨vp_in_nI hi (by omega), fun z => ?_, fun _ => ⟨vp_in_nI (by omega) (by omega), ?_⟩⟩
    · exfalso
      exact nI_ge (by omega) (by omega) z
    · refine M_why pg.va pg.now ok.va ok.now w.now.D c e (ec_fv t j) n6 hc he fl kog (fun h7 F7 => ⟨_, rfl, F7.ko kog, fun z => ?_, fun z => ?_⟩)
      · have wz : ec_why w.va w.now w.now.D c e (ec_fv t j) = 0 := by
          refine Classical.byContradiction fun y => ?_
          have : ec_why w.va w.now w.now.D c e (ec_fv t j) < 5 := by
            unfold ec_why
            cases ec_nb w.va.R w.va.W c (ec_fv t j) with
            | none => dsimp only; omega
            | some to => dsimp only; split <;> (try split) <;> omega
          exact nI_ne0 (by omega) (by omega) z
        obtain ⟨to, hn⟩ := ec_why_nb wz
        have hto := ec_nb_lt hc r6' hn
        have hne := ec_ne_lt (V := w.va) (s := w.now) (c := c) (e := e) (to := to) he (n7 to (by omega)).2
        have p7 := pg.mw F7
        refine M_st p7.va p7.now ok.va ok.now c e (ec_fv t j) to hc he fl hn (F7.ko kog) (fun h11 F11 => ⟨_, rfl, F11.ko (F7.ko kog), ?_⟩)
        refine ih (j + 1) to _ h11 (by omega) hto hne ((F.trans F7).trans F11) (fun g' a y hy => w1 g' a y ?_)
        rw [hy, ec_fo_0 wz hn]
      · have wz : ¬ ec_why w.va w.now w.now.D c e (ec_fv t j) = 0 := fun y => z (by rw [y]; rfl)
        refine w1 h7 (F.trans F7) 0 ?_
        rw [ec_fo_1 wz]
        simp
/-! what is refused ahead of a told flight -/
def ec_rl (f : Nat → Int64) (x : Int32) : Nat → Nat → Int32
  | 0, _ => if 0 ≤ x.toInt ∧ x.toInt < 64 then 0 else -3
  | m + 1, j => if 0 ≤ (f j).toInt ∧ (f j).toInt < 4 then ec_rl f x m (j + 1) else -3
def ec_rf (t : eb_Ty) (x : Int32) : Int32 := if 1 ≤ t.size.toInt ∧ t.size.toInt ≤ 12 then ec_rl t.val x t.size.toInt.toNat 0 else -4
theorem ec_rl_0 (f : Nat → Int64) (x : Int32) : ∀ (m j : Nat), ec_rl f x m j = 0 → (0 ≤ x.toInt ∧ x.toInt < 64) ∧ ∀ q, j ≤ q → q < j + m → 0 ≤ (f q).toInt ∧ (f q).toInt < 4
  | 0, j, h => by
    have h : (if 0 ≤ x.toInt ∧ x.toInt < 64 then (0 : Int32) else -3) = 0 := h
    by_cases z : 0 ≤ x.toInt ∧ x.toInt < 64
    · exact ⟨z, fun q a b => by omega⟩
    · rw [if_neg z] at h
      exact absurd h (by decide)
  | m + 1, j, h => by
    have h : (if 0 ≤ (f j).toInt ∧ (f j).toInt < 4 then ec_rl f x m (j + 1) else -3) = 0 := h
    by_cases z : 0 ≤ (f j).toInt ∧ (f j).toInt < 4
    · rw [if_pos z] at h
      obtain ⟨a, b⟩ := ec_rl_0 f x m (j + 1) h
      refine ⟨a, fun q c e => ?_⟩
      by_cases y : q = j
      · rw [y]; exact z
      · exact b q (by omega) (by omega)
    · rw [if_neg z] at h
      exact absurd h (by decide)
theorem ec_rf_0 {t : eb_Ty} {x : Int32} (h : ec_rf t x = 0) : ec_gd t ∧ ∃ n, n < 64 ∧ x = nI n := by
  unfold ec_rf at h
  by_cases z : 1 ≤ t.size.toInt ∧ t.size.toInt ≤ 12
  · rw [if_pos z] at h
    obtain ⟨a, b⟩ := ec_rl_0 _ _ _ _ h
    exact ⟨⟨z.1, z.2, fun j hj => b j (by omega) (by omega)⟩, x.toInt.toNat, by omega, eb_ofn a.1⟩
  · rw [if_neg z] at h
    exact absurd h (by decide)
theorem C_rf {d : Nat} {h : eb_H} {Q : Option Value → eb_H → Prop} {w : eb_Wo} (p : PX w h) (ok : eb_okW w) (ko : eb_KO h) (i : Nat) (hi : i < 4) (x : Int32) (w0 : w.tray i = none → Q (some (.int (-6))) h) (w1 : ∀ t, w.tray i = some t → Q (some (.int (ec_rf t x))) h) : eb_Ct (d + 1) 147 [.ref (s_trays_0 + 1048576 * i), .int x] h Q := by
  obtain ⟨r1, r2, r3, r4, r5⟩ := eb_trs ko hi
  have T := p.tray i hi
  cases ht : w.tray i with
  | none =>
    rw [ht] at T
    have T' : eb_I h (s_trays_0 + 1048576 * i) 2 = 1 := T
    refine T_X10_flownRefusal _ x r2 ko ⟨fun z => ?_, fun _ => w0 ht⟩
    rw [T'] at z
    exact absurd z (by decide)
  | some t =>
    rw [ht] at T
    obtain ⟨t1, t2, t3, t4⟩ := T
    obtain ⟨o1, o2⟩ := ok.tray i t hi ht
    have tsz : t.size = nI t.size.toInt.toNat := eb_ofn o2.1
    have k3 : eb_I h (s_trays_0 + 1048576 * i) 3 = nI t.size.toInt.toNat := t3.trans tsz
    have ww := w1 t ht
    unfold ec_rf at ww
    refine T_X10_flownRefusal _ x r2 ko ⟨fun _ => ⟨fun z => ?_, fun z => ⟨fun y => ?_, fun y => ?_⟩⟩, fun z => absurd t1 z⟩
    · rw [t3, eb_i32, show (1 : Int32).toInt = 1 by decide] at z
      rw [if_neg (by omega)] at ww
      exact ww
    · rw [t3, eb_i32, show (1 : Int32).toInt = 1 by decide] at z
      rw [t3, eb_i32e, show (12 : Int32).toInt = 12 by decide] at y
      rw [if_pos (by omega)] at ww
      have key : ∀ (m j : Nat), j + m = t.size.toInt.toNat → Q (some (.int (ec_rl t.val x m j))) h → eb_Sn (d + 1) m_X10_flownRefusal h 32 [(0, .ref (s_trays_0 + 1048576 * i)), (1, .int x), (2, .int (nI j))] [] h Q := by
        intro m
        induction m with
        | zero =>
          intro j hj ww
          refine b_X10_flownRefusal_32 _ x _ r2 ko ⟨fun _ => ?_, fun z => ?_⟩
          · unfold ec_rl at ww
            by_cases g : 0 ≤ x.toInt ∧ x.toInt < 64
            · rw [if_pos g] at ww
              rw [if_neg (by rw [eb_i32, eb_i32, eb_z32, show (64 : Int32).toInt = 64 by decide]; omega)]
              exact ww
            · rw [if_neg g] at ww
              rw [if_pos (by rw [eb_i32, eb_i32, eb_z32, show (64 : Int32).toInt = 64 by decide]; omega)]
              exact ww
          · exfalso
            apply z
            rw [k3]
            exact nI_le (by omega) (by omega)
        | succ m ih =>
          intro j hj ww
          unfold ec_rl at ww
          have ej : eb_J h (s_trays_0_values + 1048576 * i) (nI j).toNatClampNeg = t.val j := by
            rw [eb_cln (by omega)]
            exact t4 j (by omega) (by omega)
          refine b_X10_flownRefusal_32 _ x _ r2 ko ⟨fun z => ?_, fun _ => ⟨fun z => absurd z (nI_pos (by omega)), fun _ => ⟨_, r3, r4, fun z => ?_, fun _ => ⟨?_, ?_⟩⟩⟩⟩
          · exfalso
            rw [k3] at z
            exact nI_ge (by omega) (by omega) z
          · exfalso
            rw [r5] at z
            exact nI_ge (a := j) (b := 40) (by omega) (by omega) z
          · rw [r5]; exact vp_in_nI (by omega) (by omega)
          · rw [ej, nI_1, Int64.lt_iff_toInt_lt, Int64.lt_iff_toInt_lt, eb_z64, show (4 : Int64).toInt = 4 by decide]
            refine ⟨fun u => ?_, fun u => ⟨fun u2 => ?_, fun u2 => ?_⟩⟩
            · rw [if_neg (by omega)] at ww
              exact ww
            · rw [if_pos (by omega)] at ww
              exact ih (j + 1) (by omega) ww
            · rw [if_neg (by omega)] at ww
              exact ww
      exact key t.size.toInt.toNat 0 (by omega) ww
    · rw [t3, eb_i32e, show (12 : Int32).toInt = 12 by decide] at y
      rw [if_neg (by omega)] at ww
      exact ww
theorem M_rf {d : Nat} {h : eb_H} {Q : Option Value → eb_H → Prop} {w : eb_Wo} (p : PM w h) (ok : eb_okW w) (ko : eb_KO h) (i : Nat) (hi : i < 4) (x : Int32) (w0 : w.tray i = none → Q (some (.int (-6))) h) (w1 : ∀ t, w.tray i = some t → Q (some (.int (ec_rf t x))) h) : eb_Ct (d + 2) 254 [.ref s_MO, .int (nI i), .int x] h Q := by
  refine T_X11_noFlown _ _ ko (M_noTray p ok ko i hi (fun z => ⟨_, rfl, ko, fun y => absurd y (by decide), fun _ => w0 z⟩) (fun t ht => ⟨_, rfl, ko, fun _ => ⟨vp_in_nI hi (by omega), ?_⟩, fun y => absurd rfl y⟩))
  have T := p.tray i hi
  rw [ht] at T
  obtain ⟨t1, t2, t3⟩ := T
  obtain ⟨o1, o2⟩ := ok.tray i t hi ht
  have tsz : t.size = nI t.size.toInt.toNat := eb_ofn o2.1
  have k3 : eb_I h s_m_rowMany i = nI t.size.toInt.toNat := t2.trans tsz
  have ww := w1 t ht
  unfold ec_rf at ww
  rw [eb_cln (by omega), t2, eb_l64a, eb_l64b, ec_d1, show (12 : Int64).toInt = 12 by decide]
  refine ⟨fun z => ?_, fun z => ?_⟩
  · rw [if_pos (by omega)] at ww
    have key : ∀ (m j : Nat), j + m = t.size.toInt.toNat → Q (some (.int (ec_rl t.val x m j))) h → eb_Sn (d + 2) m_X11_noFlown h 35 [(0, .ref s_MO), (1, .int (nI i)), (2, .int x), (4, .int (nI j))] [] h Q := by
      intro m
      induction m with
      | zero =>
        intro j hj ww
        refine b_X11_noFlown_35 _ x _ ko ?_
        rw [eb_cln (n := i) (by omega), k3]
        refine ⟨vp_in_nI hi (by omega), fun _ => ?_, fun z => ?_⟩
        · unfold ec_rl at ww
          by_cases g : 0 ≤ x.toInt ∧ x.toInt < 64
          · rw [if_pos g] at ww
            rw [if_pos (by rw [eb_l64a, eb_l64b, eb_z64, show (63 : Int64).toInt = 63 by decide]; omega)]
            exact ww
          · rw [if_neg g] at ww
            rw [if_neg (by rw [eb_l64a, eb_l64b, eb_z64, show (63 : Int64).toInt = 63 by decide]; omega)]
            exact ww
        · exfalso
          apply z
          exact nI_le (by omega) (by omega)
      | succ m ih =>
        intro j hj ww
        unfold ec_rl at ww
        have idx := eb_4i (x := nI i) (y := nI j) (by rw [nI_toInt (by omega)]; omega) (by rw [nI_toInt (by omega)]; omega)
        rw [nI_toInt (by omega), nI_toInt (by omega), Int.toNat_natCast, Int.toNat_natCast] at idx
        have kv := t3 j (by omega) (by omega)
        refine b_X11_noFlown_35 _ x _ ko ?_
        rw [idx, eb_cln (n := i) (by omega), eb_cln (n := 40 * i + j) (by omega), k3, kv, nI_1]
        refine ⟨vp_in_nI hi (by omega), fun z => ?_, fun _ => ⟨vp_in_nI (by omega) (by omega), fun u => ?_, fun u => ?_⟩⟩
        · exfalso
          exact nI_ge (by omega) (by omega) z
        · rw [Int64.lt_iff_toInt_lt, Int64.lt_iff_toInt_lt, eb_z64, eb_d3] at u
          rw [if_pos (by omega)] at ww
          exact ih (j + 1) (by omega) ww
        · rw [Int64.lt_iff_toInt_lt, Int64.lt_iff_toInt_lt, eb_z64, eb_d3] at u
          rw [if_neg (by omega)] at ww
          exact ww
    exact key t.size.toInt.toNat 0 (by omega) ww
  · rw [if_neg (by omega)] at ww
    exact ww
end EBFLOWN
