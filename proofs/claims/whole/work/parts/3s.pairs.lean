section EBPAIRS4
variable {L : Nat} {xs : Nat → Int32}
theorem ec_ds1 {V : eb_Va} {s : eb_St} {c : Nat} (h : c < 100) : ec_ds V s (100 + c) = ec_lg c s := by
  unfold ec_ds
  rw [if_neg (by omega), if_pos (by omega), Nat.add_sub_cancel_left]
theorem ec_ds2 {V : eb_Va} {s : eb_St} {c : Nat} (h : c < 100) : ec_ds V s (200 + c) = ec_dr c s := by
  unfold ec_ds
  rw [if_neg (by omega), if_neg (by omega), if_pos (by omega), Nat.add_sub_cancel_left]
theorem ec_ds3 {V : eb_Va} {s : eb_St} {c : Nat} (h : c < 10) : ec_ds V s (300 + c) = ec_set s 4 (nI c) := by
  unfold ec_ds
  rw [if_neg (by omega), if_neg (by omega), if_neg (by omega), if_pos (by omega), Nat.add_sub_cancel_left]
theorem ec_ds4 {V : eb_Va} {s : eb_St} {c k : Nat} (hk : k < 10) : ec_ds V s (1000 + 10 * c + k) = ec_set s (5 + c) (nI k) := by
  unfold ec_ds
  rw [if_neg (by omega), if_neg (by omega), if_neg (by omega), if_neg (by omega), show (1000 + 10 * c + k - 1000) / 10 = c by omega, show (1000 + 10 * c + k) % 10 = k by omega]
theorem ec_dw1 {V : eb_Va} {s : eb_St} {c : Nat} (ok : eb_okV V) (h : c < V.R * V.W) : ec_dw V s (100 + c) = 0 ∧ ec_dw V s (200 + c) = 0 := by
  have r10 := ok.RW.2.2.2.2.2.2.2.2.2.1
  unfold ec_dw
  constructor
  · rw [if_neg (by omega), if_pos (by omega), if_pos (by omega)]
  · rw [if_neg (by omega), if_pos (by omega), if_pos (by omega)]
theorem ec_dw3 {V : eb_Va} {s : eb_St} {c : Nat} (h : c < 10) : ec_dw V s (300 + c) = 0 := by
  unfold ec_dw
  rw [if_neg (by omega), if_neg (by omega), if_pos (by omega)]
theorem ec_dw4 {V : eb_Va} {s : eb_St} {c k : Nat} (ok : eb_okV V) (h : c < V.R * V.W) (hk : k ≤ 6) : ec_dw V s (1000 + 10 * c + k) = 0 := by
  have r10 := ok.RW.2.2.2.2.2.2.2.2.2.1
  unfold ec_dw
  rw [if_neg (by omega), if_neg (by omega), if_neg (by omega), if_pos (by omega)]
/-- the reference keeps, changes now, notes -/
theorem M_chg {d : Nat} {g : eb_H} {Q : Option Value → eb_H → Prop} {w : eb_Wo} (p : PM w g) (ok : eb_okW w) (ko : eb_KO g) (s : eb_St) (os : eb_okS w.va s) (f : eb_H → eb_H) (hf : ∀ h, PMS h 31 w.now → PMS (f h) 31 s ∧ ec_fr (fun c => ec_mw c ∨ c = s_m_all) h (f h) ∧ ∀ q, (q < 31 ∨ 52 ≤ q) → eb_I (f h) s_m_all q = eb_I h s_m_all q) (q : ∀ h', eb_fm g h' → PM (w.setNP s ((w.now :: w.past).take 10)) h' → PMS h' 31 s → (∀ q, q < 21 → eb_I h' s_m_was q = ec_rw w.now q) → Q none h') : eb_Ct d 206 [.ref s_MO] g (fun r h4 => r = none ∧ eb_KO h4 ∧ eb_Ct d 208 [.ref s_MO] (f h4) Q) := by
  refine M_keep p ko (fun h2 F2 p2 wq => ⟨rfl, F2.ko ko, ?_⟩)
  have k2 := F2.ko ko
  obtain ⟨pn, F3, a3⟩ := hf h2 p2.now
  have F3' : ec_fr (fun c => ec_mw c ∨ c = s_m_all ∨ c = s_m_was) h2 (f h2) := F3.weak (fun c z => by
    rcases z with z | z
    · exact Or.inl z
    · exact Or.inr (Or.inl z))
  have p3 : PM (w.setNP s w.past) (f h2) := p2.now1 ok _ F3' a3 pn
  have w3 : eb_I (f h2) s_m_was = eb_I h2 s_m_was := F3.2.2 _ (by unfold ec_mw; decide)
  refine M_rem _ os p3 ok (by rw [w3]; exact wq) (F3.ko k2) (fun h4 fm p4 pn4 w4 => ?_)
  exact q h4 ((F2.fm ko (fun c z => ec_mw3 c (Or.inr (Or.inr z)))).trans ((F3'.fm k2 ec_mw3).trans fm)) p4 pn4 (by rw [w4, w3]; exact wq)
/-- 10: off -/
theorem c_off (k : Nat) (h : eb_H) (v1 : Int32) (inv : eb_Inv L xs k h) : eb_Pr 104 213 [.int v1] (eb_Inv L xs (k + 1)) h := by
  refine eb_pr inv (fun w ok => ?_)
  obtain ⟨r1, r2, r3, r4, r5, r6, r7, r8, r9, r10, _⟩ := ok.va.RW
  by_cases hx : 0 ≤ v1.toInt ∧ v1.toInt < (w.va.R * w.va.W : Nat)
  · obtain ⟨c, hc, rfl⟩ := ec_in hx
    have hd := (ec_dw1 (s := w.now) ok.va hc).1
    have os := ec_ds_ok ok.va ok.now _ hd
    refine ⟨w.now.bat, w.setNP (ec_ds w.va w.now (100 + c)) ((w.now :: w.past).take 10), ok.setN1 _ os, by show w.fed ≤ _; omega, eb_XS.of (fun h ko p Q q => ?_), eb_MS.of (fun h g ko eg kog p Q q => ?_)⟩
    · obtain ⟨v, ev, pv⟩ := p.va
      refine T_X10_off (d := 1298) _ ko ⟨v, ev, pv.1.1, fun z => absurd ((X_has pv ok.va _).mpr hx) z, fun _ => ?_⟩
      rw [show (100 : Int32) + nI c = nI (100 + c) from ec_9 100 c]
      refine C_da (d := 1291) p ok ko (100 + c) (by omega) hd (fun h' a b c' => ⟨_, rfl, a.1, ?_⟩)
      rw [if_neg (by decide), p.now.1]
      exact q h' a b
    · refine T_X11_off (d := 1297) _ ko ?_
      rw [← eg]
      refine ⟨fun _ => ?_, fun z => absurd ((M_has p.va ok.va _).mpr hx) z⟩
      refine M_chg p ok kog _ os (fun h4 => eb_sI (eb_sI h4 s_m_all (31 : Int32).toNatClampNeg (nI c)) s_m_all (32 : Int32).toNatClampNeg 0) (fun h4 pn => ⟨?_, (ec_fr.rfl.sI (Or.inr rfl)).sI (Or.inr rfl), fun q hq => ?_⟩) (fun h7 fm p7 pn7 w7 => ⟨rfl, fm.1, ?_⟩)
      · rw [ec_ds1 (by omega), ec_t31, ec_t32]
        exact (pn.set (k := 0) (by omega) _).set (k := 1) (by omega) _
      · show eb_I (eb_sI (eb_sI h4 s_m_all (31 : Int32).toNatClampNeg (nI c)) s_m_all (32 : Int32).toNatClampNeg 0) s_m_all q = _
        rw [ec_t31, ec_t32, eb_I_sI, if_neg (by omega), eb_I_sI, if_neg (by omega)]
      · have e : eb_I h7 s_m_was (0 : Int32).toNatClampNeg = w.now.bat := w7 0 (by omega)
        rw [e]
        exact q h7 fm p7
  · refine ⟨-11, w, ok, by omega, eb_XS.of (fun h ko p Q q => ?_), eb_MS.of (fun h g ko eg kog p Q q => ?_)⟩
    · obtain ⟨v, ev, pv⟩ := p.va
      exact T_X10_off (d := 1298) _ ko ⟨v, ev, pv.1.1, fun _ => q h (eb_fx.rfl ko) p, fun z => absurd ((X_has pv ok.va _).mp z) hx⟩
    · refine T_X11_off (d := 1297) _ ko ?_
      rw [← eg]
      exact ⟨fun z => absurd ((M_has p.va ok.va _).mp z) hx, fun _ => q g (eb_fm.rfl kog) p⟩
/-- 12: drift -/
theorem c_drift (k : Nat) (h : eb_H) (v1 : Int32) (inv : eb_Inv L xs k h) : eb_Pr 106 215 [.int v1] (eb_Inv L xs (k + 1)) h := by
  refine eb_pr inv (fun w ok => ?_)
  obtain ⟨r1, r2, r3, r4, r5, r6, r7, r8, r9, r10, _⟩ := ok.va.RW
  obtain ⟨n1, n2, n3, n4, n5, n6, n7⟩ := ok.now.N ok.va
  by_cases hx : 0 ≤ v1.toInt ∧ v1.toInt < (w.va.R * w.va.W : Nat)
  · obtain ⟨c, hc, rfl⟩ := ec_in hx
    have hd := (ec_dw1 (s := w.now) ok.va hc).2
    have os := ec_ds_ok ok.va ok.now _ hd
    have hxl := ec_xor_lt n6 (show c < 16 by omega)
    refine ⟨nI ((w.now.D ^^^ 2 ^ c) / 2 ^ c % 2), w.setNP (ec_ds w.va w.now (200 + c)) ((w.now :: w.past).take 10), ok.setN1 _ os, by show w.fed ≤ _; omega, eb_XS.of (fun h ko p Q q => ?_), eb_MS.of (fun h g ko eg kog p Q q => ?_)⟩
    · obtain ⟨v, ev, pv⟩ := p.va
      refine T_X10_drift (d := 1298) _ ko ⟨v, ev, pv.1.1, fun z => absurd ((X_has pv ok.va _).mpr hx) z, fun _ => ?_⟩
      rw [show (200 : Int32) + nI c = nI (200 + c) from ec_9 200 c]
      refine C_da (d := 1291) p ok ko (200 + c) (by omega) hd (fun h' a b c' => ⟨_, rfl, a.1, fun _ => ?_, fun z => absurd z (by decide)⟩)
      have e3 : eb_I h' s_now 3 = nI (w.now.D ^^^ 2 ^ c) := by
        rw [ec_ds2 (by omega)] at c'
        exact c'.2.2.2.1
      have e4 : eb_q (((eb_I h' s_now 3 >>> (nI c &&& 31)) &&& 1) = (1 : Int32)) = nI ((w.now.D ^^^ 2 ^ c) / 2 ^ c % 2) := by
        rw [e3]
        by_cases z : (w.now.D ^^^ 2 ^ c) / 2 ^ c % 2 = 1
        · rw [eb_qt (by rw [ec_bit1 (by omega) (by omega), ec_nI1]; exact z), z]; rfl
        · rw [eb_qf (by rw [ec_bit1 (by omega) (by omega), ec_nI1]; exact z), show (w.now.D ^^^ 2 ^ c) / 2 ^ c % 2 = 0 by omega]; rfl
      rw [e4]
      exact q h' a b
    · refine T_X11_drift (d := 1297) _ ko ?_
      rw [← eg]
      refine ⟨fun _ => ?_, fun z => absurd ((M_has p.va ok.va _).mpr hx) z⟩
      refine M_chg p ok kog _ os (fun h4 => eb_sI h4 s_m_all (50 : Int32).toNatClampNeg ((eb_I h4 s_m_all (50 : Int32).toNatClampNeg) ^^^ ((1 : Int32) <<< (nI c &&& 31)))) (fun h4 pn => ⟨?_, ec_fr.rfl.sI (Or.inr rfl), fun q hq => ?_⟩) (fun h7 fm p7 pn7 w7 => ⟨rfl, fm.1, ?_⟩)
      · have e50 : eb_I h4 s_m_all 50 = nI w.now.D := pn.2.2.2.2.1.trans n3
        rw [ec_ds2 (by omega)]
        show PMS (eb_sI h4 s_m_all (50 : Int32).toNatClampNeg ((eb_I h4 s_m_all (50 : Int32).toNatClampNeg) ^^^ ((1 : Int32) <<< (nI c &&& 31)))) 31 (ec_dr c w.now)
        rw [ec_t50, e50, ec_shl1 (by omega), ec_xor (by omega) (ec_p2 (by omega))]
        exact pn.set (k := 3) (by omega) _
      · show eb_I (eb_sI h4 s_m_all (50 : Int32).toNatClampNeg _) s_m_all q = _
        rw [ec_t50, eb_I_sI, if_neg (by omega)]
      · have e : eb_I h7 s_m_all (50 : Int32).toNatClampNeg = nI (w.now.D ^^^ 2 ^ c) := by
          rw [ec_ds2 (by omega)] at pn7
          exact pn7.2.2.2.2.1
        rw [e, ec_bit1 (by omega) (by omega)]
        exact q h7 fm p7
  · refine ⟨-11, w, ok, by omega, eb_XS.of (fun h ko p Q q => ?_), eb_MS.of (fun h g ko eg kog p Q q => ?_)⟩
    · obtain ⟨v, ev, pv⟩ := p.va
      exact T_X10_drift (d := 1298) _ ko ⟨v, ev, pv.1.1, fun _ => q h (eb_fx.rfl ko) p, fun z => absurd ((X_has pv ok.va _).mp z) hx⟩
    · refine T_X11_drift (d := 1297) _ ko ?_
      rw [← eg]
      exact ⟨fun z => absurd ((M_has p.va ok.va _).mp z) hx, fun _ => q g (eb_fm.rfl kog) p⟩
theorem ec_c9 : (9 : Int32).toInt = 9 := by decide
theorem ec_d9 : (9 : Int64).toInt = 9 := by decide
theorem ec_c6 : (6 : Int32).toInt = 6 := by decide
theorem ec_d6 : (6 : Int64).toInt = 6 := by decide
/-- 13: wind -/
theorem c_wind (k : Nat) (h : eb_H) (v1 : Int32) (inv : eb_Inv L xs k h) : eb_Pr 107 216 [.int v1] (eb_Inv L xs (k + 1)) h := by
  refine eb_pr inv (fun w ok => ?_)
  have x1 : ((¬ (v1 < 0)) ∧ (¬ ((9 : Int32) < v1))) ↔ (0 ≤ v1.toInt ∧ v1.toInt < (10 : Nat)) := by rw [eb_i32, eb_i32, eb_z32, ec_c9]; omega
  have m1 : ((¬ (v1.toInt64 < 0)) ∧ (¬ (9 < v1.toInt64))) ↔ (0 ≤ v1.toInt ∧ v1.toInt < (10 : Nat)) := by rw [eb_l64a, eb_l64b, eb_z64, ec_d9]; omega
  by_cases hx : 0 ≤ v1.toInt ∧ v1.toInt < (10 : Nat)
  · obtain ⟨c, hc, rfl⟩ := ec_in hx
    have hd := ec_dw3 (V := w.va) (s := w.now) hc
    have os := ec_ds_ok ok.va ok.now _ hd
    refine ⟨w.now.wind, w.setNP (ec_ds w.va w.now (300 + c)) ((w.now :: w.past).take 10), ok.setN1 _ os, by show w.fed ≤ _; omega, eb_XS.of (fun h ko p Q q => ?_), eb_MS.of (fun h g ko eg kog p Q q => ?_)⟩
    · refine T_X10_wind (d := 1298) _ ko ⟨fun z => absurd (x1.mpr hx) z, fun _ => ?_⟩
      rw [show (300 : Int32) + nI c = nI (300 + c) from ec_9 300 c]
      refine C_da (d := 1291) p ok ko (300 + c) (by omega) hd (fun h' a b c' => ⟨_, rfl, a.1, ?_⟩)
      rw [if_neg (by decide), p.now.2.2.2.2.1]
      exact q h' a b
    · refine T_X11_wind (d := 1298) _ ko ?_
      rw [← eg]
      refine ⟨fun _ => ?_, fun z => absurd (m1.mpr hx) z⟩
      refine M_chg p ok kog _ os (fun h4 => eb_sI h4 s_m_all (51 : Int32).toNatClampNeg (nI c)) (fun h4 pn => ⟨?_, ec_fr.rfl.sI (Or.inr rfl), fun q hq => ?_⟩) (fun h7 fm p7 pn7 w7 => ⟨rfl, fm.1, ?_⟩)
      · rw [ec_ds3 (by omega), ec_t51]
        exact pn.set (k := 4) (by omega) _
      · show eb_I (eb_sI h4 s_m_all (51 : Int32).toNatClampNeg _) s_m_all q = _
        rw [ec_t51, eb_I_sI, if_neg (by omega)]
      · have e : eb_I h7 s_m_was (20 : Int32).toNatClampNeg = w.now.wind := w7 20 (by omega)
        rw [e]
        exact q h7 fm p7
  · refine ⟨-11, w, ok, by omega, eb_XS.of (fun h ko p Q q => ?_), eb_MS.of (fun h g ko eg kog p Q q => ?_)⟩
    · exact T_X10_wind (d := 1298) _ ko ⟨fun _ => q h (eb_fx.rfl ko) p, fun z => absurd (x1.mp z) hx⟩
    · refine T_X11_wind (d := 1298) _ ko ?_
      rw [← eg]
      exact ⟨fun z => absurd (m1.mp z) hx, fun _ => q g (eb_fm.rfl kog) p⟩
/-- 11: put -/
theorem c_put (k : Nat) (h : eb_H) (v1 v2 : Int32) (inv : eb_Inv L xs k h) : eb_Pr 105 214 [.int v1, .int v2] (eb_Inv L xs (k + 1)) h := by
  refine eb_pr inv (fun w ok => ?_)
  obtain ⟨r1, r2, r3, r4, r5, r6, r7, r8, r9, r10, _⟩ := ok.va.RW
  have m2 : ((¬ (v2.toInt64 < 0)) ∧ (¬ (6 < v2.toInt64))) ↔ (0 ≤ v2.toInt ∧ v2.toInt < (7 : Nat)) := by rw [eb_l64a, eb_l64b, eb_z64, ec_d6]; omega
  have x2 : ((¬ (v2 < 0)) ∧ (¬ ((6 : Int32) < v2))) ↔ (0 ≤ v2.toInt ∧ v2.toInt < (7 : Nat)) := by rw [eb_i32, eb_i32, eb_z32, ec_c6]; omega
  by_cases hx : 0 ≤ v1.toInt ∧ v1.toInt < (w.va.R * w.va.W : Nat)
  · by_cases hy : 0 ≤ v2.toInt ∧ v2.toInt < (7 : Nat)
    · obtain ⟨c, hc, rfl⟩ := ec_in hx
      obtain ⟨kk, hk, rfl⟩ := ec_in hy
      have hd := ec_dw4 (s := w.now) ok.va hc (show kk ≤ 6 by omega)
      have os := ec_ds_ok ok.va ok.now _ hd
      refine ⟨w.now.th c, w.setNP (ec_ds w.va w.now (1000 + 10 * c + kk)) ((w.now :: w.past).take 10), ok.setN1 _ os, by show w.fed ≤ _; omega, eb_XS.of (fun h ko p Q q => ?_), eb_MS.of (fun h g ko eg kog p Q q => ?_)⟩
      · obtain ⟨v, ev, pv⟩ := p.va
        have hx2 := (X_has pv ok.va _).mpr hx
        refine T_X10_put (d := 1298) _ _ ko ⟨fun z => absurd z hx2.1, fun _ => ⟨fun z => ?_, fun _ => ⟨vp_in_nI (by omega) (by omega), v, ev, pv.1.1, fun z => absurd ⟨hx2.2, x2.mpr hy⟩ z, fun _ => ?_⟩⟩⟩
        · exfalso
          exact nI_ge (a := c) (b := 16) (by omega) (by omega) z
        · rw [show (10 : Int32) * nI c = nI (10 * c) from pk_mul 10 c, show (1000 : Int32) + nI (10 * c) = nI (1000 + 10 * c) from ec_9 1000 _, nI_add]
          refine C_da (d := 1291) p ok ko (1000 + 10 * c + kk) (by omega) hd (fun h' a b c' => ⟨_, rfl, a.1, ?_⟩)
          rw [if_neg (by decide), eb_cln (by omega)]
          rw [show eb_I h s_now_things c = w.now.th c from p.now.2.2.2.2.2.2 c (by omega)]
          exact q h' a b
      · refine T_X11_put (d := 1297) _ _ ko ?_
        rw [← eg]
        refine ⟨fun z => absurd ((M_has p.va ok.va _).mpr hx) z, fun _ => ⟨fun _ => ?_, fun z => absurd (m2.mpr hy) z⟩⟩
        have e34 : (34 : Int32) + nI c = nI (34 + c) := ec_9 34 c
        have e3 : (3 : Int32) + nI c = nI (3 + c) := ec_9 3 c
        rw [e34, e3, eb_cln (n := 34 + c) (by omega), eb_cln (n := 3 + c) (by omega)]
        refine (M_chg (d := 1298) p ok kog _ os (fun h4 => eb_sI h4 s_m_all (34 + c) (nI kk)) (Q := fun r h11 => r = none ∧ eb_KO h11 ∧ (vp_in (nI (3 + c)) 21) ∧ Q (some (.int (eb_I h11 s_m_was (3 + c)))) h11) (fun h4 pn => ⟨?_, ec_fr.rfl.sI (Or.inr rfl), fun q hq => ?_⟩) (fun h7 fm p7 pn7 w7 => ⟨rfl, fm.1, vp_in_nI (by omega) (by omega), ?_⟩)).mono (fun r h' z => ⟨z.1, z.2.1, vp_in_nI (by omega) (by omega), z.2.2⟩)
        · rw [ec_ds4 (by omega)]
          have := pn.set (k := 5 + c) (by omega) (nI kk)
          rw [show 31 + ec_po (5 + c) = 34 + c by unfold ec_po; rw [if_neg (by omega), if_neg (by omega), if_neg (by omega)]; omega] at this
          exact this
        · show eb_I (eb_sI h4 s_m_all (34 + c) (nI kk)) s_m_all q = _
          rw [eb_I_sI, if_neg (by omega)]
        · have e : eb_I h7 s_m_was (3 + c) = w.now.th c := by
            rw [w7 (3 + c) (by omega)]
            unfold ec_rw
            rw [if_neg (by omega), if_pos (by omega)]
            show w.now (3 + c + 2) = w.now (5 + c)
            rw [show 3 + c + 2 = 5 + c by omega]
          rw [e]
          exact q h7 fm p7
    · refine ⟨-11, w, ok, by omega, eb_XS.of (fun h ko p Q q => ?_), eb_MS.of (fun h g ko eg kog p Q q => ?_)⟩
      · obtain ⟨v, ev, pv⟩ := p.va
        have fin := q h (eb_fx.rfl ko) p
        exact T_X10_put (d := 1298) _ _ ko ⟨fun _ => ⟨v, ev, pv.1.1, fin⟩, fun _ => ⟨fun _ => ⟨v, ev, pv.1.1, fun _ => fin, fun z => absurd (x2.mp z.2) hy⟩, fun z => ⟨by rw [vp_in_iff]; omega, v, ev, pv.1.1, fun _ => fin, fun z => absurd (x2.mp z.2) hy⟩⟩⟩
      · refine T_X11_put (d := 1297) _ _ ko ?_
        rw [← eg]
        exact ⟨fun _ => q g (eb_fm.rfl kog) p, fun _ => ⟨fun z => absurd (m2.mp z) hy, fun _ => q g (eb_fm.rfl kog) p⟩⟩
  · refine ⟨-11, w, ok, by omega, eb_XS.of (fun h ko p Q q => ?_), eb_MS.of (fun h g ko eg kog p Q q => ?_)⟩
    · obtain ⟨v, ev, pv⟩ := p.va
      have fin := q h (eb_fx.rfl ko) p
      refine T_X10_put (d := 1298) _ _ ko ⟨fun _ => ⟨v, ev, pv.1.1, fin⟩, fun z0 => ⟨fun _ => ⟨v, ev, pv.1.1, fun _ => fin, fun z => absurd ((X_has pv ok.va _).mp ⟨z0, z.1⟩) hx⟩, fun z1 => ⟨?_, v, ev, pv.1.1, fun _ => fin, fun z => absurd ((X_has pv ok.va _).mp ⟨z0, z.1⟩) hx⟩⟩⟩
      rw [eb_i32, eb_z32] at z0
      rw [eb_i32e, show (16 : Int32).toInt = 16 by decide] at z1
      rw [vp_in_iff]
      omega
    · refine T_X11_put (d := 1297) _ _ ko ?_
      rw [← eg]
      exact ⟨fun _ => q g (eb_fm.rfl kog) p, fun z => absurd ((M_has p.va ok.va _).mp z) hx⟩
end EBPAIRS4
