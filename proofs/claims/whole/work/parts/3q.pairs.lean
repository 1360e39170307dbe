section EBPAIRS2
variable {L : Nat} {xs : Nat → Int32}
theorem ec_d1 : (1 : Int64).toInt = 1 := by decide
theorem X_has {h : eb_H} {v : Nat} {V : eb_Va} (p : PXV h v V) (ok : eb_okV V) (x : Int32) : ((¬ (x < 0)) ∧ (¬ ((eb_I h v 0) * (eb_I h v 1) ≤ x))) ↔ (0 ≤ x.toInt ∧ x.toInt < (V.R * V.W : Nat)) := by
  obtain ⟨r1, r2, r3, r4, r5, r6, r7, r8, r9, r10, _⟩ := ok.RW
  rw [p.2.1, p.2.2.1, r1, r2, pk_mul, eb_i32, eb_i32e, eb_z32, nI_toInt (by omega)]
  omega
theorem M_has {h : eb_H} {V : eb_Va} (p : PMV h 0 V) (ok : eb_okV V) (x : Int32) : ((¬ (x.toInt64 < 0)) ∧ (¬ (((((eb_I h s_m_all (1 : Int32).toNatClampNeg) * (eb_I h s_m_all (2 : Int32).toNatClampNeg)) - 1).toInt64) < x.toInt64))) ↔ (0 ≤ x.toInt ∧ x.toInt < (V.R * V.W : Nat)) := by
  obtain ⟨r1, r2, r3, r4, r5, r6, r7, r8, r9, r10, _⟩ := ok.RW
  have h1 : 1 ≤ V.R * V.W := Nat.mul_pos r4 r6
  rw [ec_cellsL p ok, eb_l64a, eb_l64b, eb_z64, lN_toInt (by omega)]
  omega
theorem ec_in {x : Int32} {n : Nat} (h : 0 ≤ x.toInt ∧ x.toInt < (n : Nat)) : ∃ c, c < n ∧ x = nI c := ⟨x.toInt.toNat, by omega, eb_ofn h.1⟩
/-- a step tried -/
theorem C_tms {d : Nat} {h : eb_H} {K : Option Value → eb_H → Prop} {w : eb_Wo} (p : PX w h) (ok : eb_okW w) (ko : eb_KO h) (way : Nat) (hw : way < 4)
    (w0 : ∀ h', ec_gf ec_sc h h' → ec_why w.va w.now w.now.D w.now.b w.now.e way ≠ 0 → ec_out w.va w.now way < 0 → K (some (.int (ec_out w.va w.now way))) h')
    (w1 : ∀ h' to, ec_gf ec_sc h h' → ec_nb w.va.R w.va.W w.now.b way = some to → ec_why w.va w.now w.now.D w.now.b w.now.e way = 0 → PXS h' s_trial (ec_fl w.va w.now to) → ec_tn w.va w.now w.now.b w.now.e to ≤ 6 → K (some (.int (nI (ec_tn w.va w.now w.now.b w.now.e to)))) h') :
    eb_Ct (d + 5) 60 [.ref s_trial, .ref s_now] h (fun r h2 => r = none ∧ eb_KO h2 ∧ ∃ r5, eb_R h2 s_EB 2 = some r5 ∧ eb_kd r5 = 9 ∧ eb_Ct (d + 5) 90 [.ref r5, .ref s_trial, .int (nI way)] h2 K) := by
  obtain ⟨v, ev, pv⟩ := p.va
  obtain ⟨n1, n2, n3, n4, n5, n6, n7⟩ := ok.now.N ok.va
  obtain ⟨r1, r2, r3, r4, r5, r6, r7, r8, r9, r10, _⟩ := ok.va.RW
  refine C_trial p ko (fun h2 pt G => ⟨rfl, G.ko ko, v, by rw [G.R]; exact ev, pv.1.1, ?_⟩)
  refine C_ms (pv.gr G ec_sc_V) pt ec_trial.1 ec_trial.2.2.2 ok.va ok.now way hw (G.ko ko) (fun h' F z => ?_) (fun h' to hn hD hm eo ps' F => ?_)
  · refine w0 h' (G.trans (F.gr.weak ec_19_sc)) (fun y => ?_) z
    obtain ⟨to, hn, _, _, eo⟩ := ec_out_why.1 y
    rw [eo] at z
    have hto := ec_nb_lt n4 r6 hn
    have tl := ec_tn_le (V := w.va) (c := w.now.b) (e := w.now.e) (n7 to (by omega)).2
    exact nI_pos (by omega) z
  · have hto := ec_nb_lt n4 r6 hn
    refine w1 h' to (G.trans (F.gr.weak (fun c z => ?_))) hn ?_ ps' (ec_tn_le (n7 to (by omega)).2)
    · rcases z with z | z
      · exact Or.inl z
      · rw [z]; exact ec_trial.2.1
    · unfold ec_why
      rw [hn]
      dsimp only
      rw [if_neg hD, if_pos hm]
/-- 8: by -/
theorem c_by (k : Nat) (h : eb_H) (v1 v2 : Int32) (inv : eb_Inv L xs k h) : eb_Pr 102 205 [.int v1, .int v2] (eb_Inv L xs (k + 1)) h := by
  refine eb_pr inv (fun w ok => ?_)
  have m2 : ((¬ (v2.toInt64 < 0)) ∧ (¬ (1 < v2.toInt64))) ↔ (v2 = 0 ∨ v2 = 1) := by
    rw [eb_l64a, eb_l64b, eb_z64, ec_d1, ← Int32.toInt_inj, ← Int32.toInt_inj, eb_z32, show (1 : Int32).toInt = 1 by decide]
    omega
  by_cases g2 : v2 = 0 ∨ v2 = 1
  · by_cases hx : 0 ≤ v1.toInt ∧ v1.toInt < 4
    · obtain ⟨way, hw, rfl⟩ := ec_4 hx
      obtain ⟨n1, n2, n3, n4, n5, n6, n7⟩ := ok.now.N ok.va
      obtain ⟨r1, r2, r3, r4, r5, r6, r7, r8, r9, r10, _⟩ := ok.va.RW
      by_cases hy : ec_why w.va w.now w.now.D w.now.b w.now.e way = 0
      · obtain ⟨to, hn, hD, hm, eo⟩ := ec_out_why.1 hy
        have hto := ec_nb_lt n4 r6 hn
        have hne := ec_ne_lt (V := w.va) (s := w.now) (c := w.now.b) (e := w.now.e) (to := to) n5 (n7 to (by omega)).2
        refine ⟨if v2 = 0 then nI to else nI (ec_ne w.va w.now w.now.b w.now.e to), w, ok, by omega, eb_XS.of (fun h ko p Q q => ?_), eb_MS.of (fun h g ko eg kog p Q q => ?_)⟩
        · have fin : ∀ h', ec_gf ec_sc h h' → ∀ y, y = (if v2 = 0 then nI to else nI (ec_ne w.va w.now w.now.b w.now.e to)) → Q (some (.int y)) h' := fun h' G y hy => by
            rw [hy]
            exact q h' (G.fx ko ec_sc_M) (G.px p ec_sc_W)
          refine T_X10_by (d := 1298) _ _ ko ⟨fun z => ?_, fun z => ⟨fun z1 => ?_, fun z1 => absurd g2 (by intro y; rcases y with y | y; exact z y; exact z1 y)⟩⟩
          · refine C_tms (d := 1293) p ok ko way hw (fun h' _ y _ => absurd hy y) (fun h' to' G hn' _ ps' tl => ⟨_, rfl, G.ko ko, fun _ => ?_, fun y => absurd (nI_pos' (by omega)) y⟩)
            rw [hn] at hn'
            cases hn'
            exact fin h' G _ (by rw [ps'.1, if_pos z]; rfl)
          · refine C_tms (d := 1293) p ok ko way hw (fun h' _ y _ => absurd hy y) (fun h' to' G hn' _ ps' tl => ⟨_, rfl, G.ko ko, fun _ => ?_, fun y => absurd (nI_pos' (by omega)) y⟩)
            rw [hn] at hn'
            cases hn'
            exact fin h' G _ (by rw [if_neg z, if_neg z, ps'.2.1]; rfl)
        · refine T_X11_by (d := 1298) _ _ ko ⟨fun _ => ?_, fun z => absurd (m2.mpr g2) z⟩
          rw [← eg]
          refine M_now (d := 1295) p.va p.now ok.va ok.now way hw kog (fun h' F => ⟨_, rfl, F.ko kog, fun _ => ?_, fun z => absurd (by rw [hy]; rfl) z⟩)
          have p' := p.mw F
          rw [ec_stand p'.now ok.va ok.now]
          refine M_st (d := 1296) p'.va p'.now ok.va ok.now w.now.b w.now.e way to n4 n5 hw hn (F.ko kog) (fun h2 F2 => ⟨_, rfl, (F.trans F2).ko kog, ?_⟩)
          obtain ⟨q1, q2⟩ := ec_sI (c := to) (by omega) hne
          rw [q2, q1]
          exact q h2 ((F.trans F2).fm kog ec_mw_isM) (p.mw (F.trans F2))
      · refine ⟨-5, w, ok, by omega, eb_XS.of (fun h ko p Q q => ?_), eb_MS.of (fun h g ko eg kog p Q q => ?_)⟩
        · have fin : ∀ h', ec_gf ec_sc h h' → Q (some (.int (-5))) h' := fun h' G => q h' (G.fx ko ec_sc_M) (G.px p ec_sc_W)
          have ng : ec_out w.va w.now way < 0 → ¬ 0 ≤ ec_out w.va w.now way := fun a b => by
            rw [eb_i32] at a
            rw [eb_i32e] at b
            omega
          refine T_X10_by (d := 1298) _ _ ko ⟨fun z => ?_, fun z => ⟨fun z1 => ?_, fun z1 => absurd g2 (by intro y; rcases y with y | y; exact z y; exact z1 y)⟩⟩
          · exact C_tms (d := 1293) p ok ko way hw (fun h' G _ u => ⟨_, rfl, G.ko ko, fun y => absurd y (ng u), fun _ => fin h' G⟩) (fun h' _ _ _ y _ => absurd y hy)
          · exact C_tms (d := 1293) p ok ko way hw (fun h' G _ u => ⟨_, rfl, G.ko ko, fun y => absurd y (ng u), fun _ => fin h' G⟩) (fun h' _ _ _ y _ => absurd y hy)
        · refine T_X11_by (d := 1298) _ _ ko ⟨fun _ => ?_, fun z => absurd (m2.mpr g2) z⟩
          rw [← eg]
          have bd : ec_why w.va w.now w.now.D w.now.b w.now.e way < 5 := (ec_out_why.2 hy).1
          exact M_now (d := 1295) p.va p.now ok.va ok.now way hw kog (fun h' F => ⟨_, rfl, F.ko kog, fun z => absurd z (nI_ne0 (by omega) (by omega)), fun _ => q h' (F.fm kog ec_mw_isM) (p.mw F)⟩)
    · refine ⟨-5, w, ok, by omega, eb_XS.of (fun h ko p Q q => ?_), eb_MS.of (fun h g ko eg kog p Q q => ?_)⟩
      · obtain ⟨v, ev, pv⟩ := p.va
        have fin : ∀ h', ec_gf ec_sc h h' → Q (some (.int (-5))) h' := fun h' G => q h' (G.fx ko ec_sc_M) (G.px p ec_sc_W)
        refine T_X10_by (d := 1298) _ _ ko ⟨fun z => ?_, fun z => ⟨fun z1 => ?_, fun z1 => absurd g2 (by intro y; rcases y with y | y; exact z y; exact z1 y)⟩⟩
        · exact C_trial (d := 1297) p ko (fun h2 pt G => ⟨rfl, G.ko ko, v, by rw [G.R]; exact ev, pv.1.1, C_ms1 (d := 1296) pv.1.1 (by decide) v1 hx (G.ko ko) ⟨_, rfl, G.ko ko, fun y => absurd y (by decide), fun _ => fin h2 G⟩⟩)
        · exact C_trial (d := 1297) p ko (fun h2 pt G => ⟨rfl, G.ko ko, v, by rw [G.R]; exact ev, pv.1.1, C_ms1 (d := 1296) pv.1.1 (by decide) v1 hx (G.ko ko) ⟨_, rfl, G.ko ko, fun y => absurd y (by decide), fun _ => fin h2 G⟩⟩)
      · refine T_X11_by (d := 1298) _ _ ko ⟨fun _ => ?_, fun z => absurd (m2.mpr g2) z⟩
        rw [← eg]
        exact M_now1 (d := 1295) v1 hx kog ⟨_, rfl, kog, fun z => absurd z (by decide), fun _ => q g (eb_fm.rfl kog) p⟩
  · refine ⟨-2, w, ok, by omega, eb_XS.of (fun h ko p Q q => ?_), eb_MS.of (fun h g ko eg kog p Q q => ?_)⟩
    · exact T_X10_by (d := 1298) _ _ ko ⟨fun z => absurd (Or.inl z) g2, fun _ => ⟨fun z => absurd (Or.inr z) g2, fun _ => q h (eb_fx.rfl ko) p⟩⟩
    · refine T_X11_by (d := 1298) _ _ ko ⟨fun z => absurd (m2.mp z) g2, fun _ => ?_⟩
      rw [← eg]
      exact q g (eb_fm.rfl kog) p
/-! deeds done, and remembered -/
def ec_sn (c : Nat) : Prop := ec_sc c ∨ (15 ≤ eb_ix c ∧ eb_ix c ≤ 16)
theorem ec_sn_M (c : Nat) (z : ec_sn c) : ¬ ec_isM c := by
  rcases z with z | z
  · exact ec_sc_M c z
  · unfold ec_isM eb_isM; omega
theorem ec_sn_V (c : Nat) (z : ec_sn c) : ¬ eb_isV c := by
  rcases z with z | z
  · exact ec_sc_V c z
  · unfold eb_isV; omega
theorem ec_sn_W (c : Nat) (z : eb_isW c ∧ ¬ ec_pst c ∧ ¬ (15 ≤ eb_ix c ∧ eb_ix c ≤ 16) ∨ c = s_flights) : ¬ ec_sn c := by
  intro y
  rcases z with z | rfl
  · rcases y with y | y
    · exact ec_sc_W c y z.1
    · exact z.2.2 y
  · unfold ec_sn ec_sc ec_19 eb_kd eb_ix s_flights at y; omega
theorem X_rem {d : Nat} {h h2 : eb_H} {Q : Option Value → eb_H → Prop} {w : eb_Wo} (p : PX w h) (ok : eb_okW w) (ko : eb_KO h) (G : ec_gf ec_sn h h2) (s : eb_St) (pb : PXS h2 s_before w.now) (pn : PXS h2 s_now s) (q : ∀ h3, eb_fx h h3 → PX (w.setNP s ((w.now :: w.past).take 10)) h3 → PXS h3 s_now s → Q none h3) : eb_Ct (d + 2) 42 [.ref s_past, .ref s_before] h2 Q := by
  have np : ¬ ec_pst s_before := by unfold ec_pst eb_ix s_before; omega
  have pp : PXP h2 w.past := p.pp.mv (G.2.weak (fun c z y => by
    unfold ec_pst at z
    rcases y with y | y
    · unfold ec_sc ec_19 at y
      omega
    · omega))
  refine C_rem s_before w.now w.past ok.len ec_before.1 np pb pp (G.ko ko) (fun h3 a nz sm => ?_)
  have pn3 : PXS h3 s_now s := by
    have e1 := sm s_now (by unfold ec_pst eb_ix s_now; omega)
    have e2 := sm (s_now + 524807) (by unfold ec_pst eb_ix s_now; omega)
    exact pn.mv e1.1 e1.2.2 e2.1
  refine q h3 ?_ (p.setNP s _ ?_ pn3 a) pn3
  · refine (G.fx ko ec_sn_M).trans (eb_fx.of (G.ko ko) nz (sm.weak (fun c z y => ?_)))
    unfold ec_isM eb_isM at z
    unfold ec_pst at y
    omega
  · refine eb_same.trans (G.2.weak (fun c z => ec_sn_W c z)) (sm.weak (fun c z => ?_))
    rcases z with z | rfl
    · exact z.2.1
    · unfold ec_pst eb_ix s_flights; omega
end EBPAIRS2
