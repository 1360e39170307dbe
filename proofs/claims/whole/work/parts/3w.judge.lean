section EBJUDGE
variable {L : Nat} {xs : Nat → Int32}
theorem ec_tray4 {x : Int32} : (¬ ((x < 0) ∨ (¬ (x < (4 : Int32))))) ↔ (0 ≤ x.toInt ∧ x.toInt < (4 : Nat)) := by rw [eb_i32, eb_i32, eb_z32, eb_c4]; omega
theorem ec_tray4m {x : Int32} : ((¬ (x.toInt64 < 0)) ∧ (¬ (3 < x.toInt64))) ↔ (0 ≤ x.toInt ∧ x.toInt < (4 : Nat)) := by rw [eb_l64a, eb_l64b, eb_z64, eb_d3]; omega
/-- is the tray there? the reference -/
theorem M_noTray {d : Nat} {g : eb_H} {Q : Option Value → eb_H → Prop} {w : eb_Wo} (p : PM w g) (ok : eb_okW w) (ko : eb_KO g) (i : Nat) (hi : i < 4) (w0 : w.tray i = none → Q (some (.int (-6))) g) (w1 : ∀ t, w.tray i = some t → Q (some (.int 0)) g) : eb_Ct (d + 1) 221 [.ref s_MO, .int (nI i)] g Q := by
  refine T_X11_noTray _ ko ⟨fun _ => ⟨vp_in_nI hi (by omega), ?_⟩, fun z => absurd (ec_tray4m.mpr (by rw [nI_toInt (by omega)]; omega)) z⟩
  rw [eb_cln (by omega)]
  have T := p.tray i hi
  cases ht : w.tray i with
  | none =>
    rw [ht] at T
    rw [show eb_I g s_m_rowSort i = -1 from T, if_pos rfl]
    exact w0 ht
  | some t =>
    rw [ht] at T
    obtain ⟨o1, o2⟩ := ok.tray i t hi ht
    rw [T.1, if_neg (fun z => by rw [z] at o1; exact absurd o1.1 (by decide))]
    exact w1 t ht
theorem M_noTray1 {d : Nat} {g : eb_H} {Q : Option Value → eb_H → Prop} (x : Int32) (hx : ¬ (0 ≤ x.toInt ∧ x.toInt < (4 : Nat))) (ko : eb_KO g) (w : Q (some (.int (-2))) g) : eb_Ct (d + 1) 221 [.ref s_MO, .int x] g Q :=
  T_X11_noTray _ ko ⟨fun z => absurd (ec_tray4m.mp z) hx, fun _ => w⟩
theorem ec_tdaT (c : Nat) (z : ec_da s_trial c) : ec_sc c := by
  rcases z with z | z | z
  · exact Or.inl z
  · rw [z]; exact ec_trial.2.1
  · rw [z]; exact ec_trial.2.2.1
theorem M_tells {d : Nat} {g : eb_H} {Q : Option Value → eb_H → Prop} {w : eb_Wo} (p : PM w g) (ok : eb_okW w) (ko : eb_KO g) (i : Nat) (hi : i < 4) (t : eb_Ty) (ht : w.tray i = some t) (q : ∀ g', eb_fm g g' → PM (w.setNP (ec_all w.va t.val t.size.toInt.toNat 0 w.now).2 w.past) g' → eb_I g' s_MO 19 = nI (ec_told w.va t.val t.size.toInt.toNat (ec_all w.va t.val t.size.toInt.toNat 0 w.now)) → eb_I g' s_m_was = eb_I g s_m_was → Q (some (.int (nI (ec_all w.va t.val t.size.toInt.toNat 0 w.now).1))) g') : eb_Ct (d + 5) 220 [.ref s_MO, .int (nI i)] g Q := by
  have mMO : eb_isM s_MO := by unfold eb_isM eb_ix s_MO; omega
  have p6 : PM (w.setNP w.now w.past) (eb_sI g s_MO 19 0) := p.mvD (by rw [eb_I_sI, if_neg (by decide)]) (by rw [eb_I_sI, if_neg (by decide)]) (by rw [eb_I_sI, if_neg (by decide)]) (fun c y => eb_I_sIn (by rcases y with rfl | rfl | rfl | rfl | rfl <;> decide)) rfl
  refine T_X11_tells (d := d + 4) _ ko (M_all ok ko i hi t ht _ 0 _ w.now (by omega) p6 ok.now ((eb_fm.rfl ko).sI mMO) eb_I_sI' (fun g' a b c e => q g' a b c ?_))
  rw [e, eb_I_sIn (by decide)]
theorem M_back {d : Nat} {g : eb_H} {Q : Option Value → eb_H → Prop} {w : eb_Wo} (s : eb_St) (os : eb_okS w.va s) (p : PM (w.setNP s w.past) g) (ok : eb_okW w) (ko : eb_KO g) (hw : ∀ q, q < 21 → eb_I g s_m_was q = ec_rw w.now q) (q : ∀ g', eb_fm g g' → PM w g' → eb_I g' s_MO 19 = eb_I g s_MO 19 → Q none g') : eb_Ct d 207 [.ref s_MO] g Q := by
  have ok1 : eb_okW (w.setNP s w.past) := ok.setNP s w.past os ok.len (fun i hi => by
    have := ok.past i hi
    rw [ec_getD hi w.now ec_s0] at this
    exact this)
  refine M_again ko (fun g' F a b => ?_)
  have F' : ec_fr (fun c => ec_mw c ∨ c = s_m_all ∨ c = s_m_was) g g' := F.weak (fun c z => Or.inr (Or.inl z))
  have pn : PMS g' 31 w.now := by
    rw [PMS_rw]
    intro q hq
    rw [a q hq]
    exact hw q hq
  have p2 : PM ((w.setNP s w.past).setNP w.now w.past) g' := p.now1 ok1 w.now F' b pn
  exact q g' (F'.fm ko ec_mw3) p2 (by rw [F.2.2 s_MO (by decide)])
theorem ec_stq {b e : Nat} (hb : b < 16) (he : e < 64) : nI (64 * b + e) / 64 = nI b ∧ nI (64 * b + e) - nI (64 * b + e) / 64 * 64 = nI e := ec_sI hb he
/-- 15: judge -/
theorem c_judge (k : Nat) (h : eb_H) (v1 v2 : Int32) (inv : eb_Inv L xs k h) : eb_Pr 109 222 [.int v1, .int v2] (eb_Inv L xs (k + 1)) h := by
  refine eb_pr inv (fun w ok => ?_)
  obtain ⟨r1, r2, r3, r4, r5, r6, r7, r8, r9, r10, _⟩ := ok.va.RW
  have x2 : ¬ (v2 < 0) ∧ v2 ≤ (3 : Int32) ↔ (0 ≤ v2.toInt ∧ v2.toInt < (4 : Nat)) := by rw [eb_i32, eb_i32e, eb_z32, show (3 : Int32).toInt = 3 by decide]; omega
  by_cases hy : 0 ≤ v2.toInt ∧ v2.toInt < (4 : Nat)
  · by_cases hx : 0 ≤ v1.toInt ∧ v1.toInt < (4 : Nat)
    · obtain ⟨i, hi, rfl⟩ := ec_in hx
      cases ht : w.tray i with
      | none =>
        refine ⟨-6, w, ok, by omega, eb_XS.of (fun h ko p Q q => ?_), eb_MS.of (fun h g ko eg kog p Q q => ?_)⟩
        · obtain ⟨y1, y2, y3, y4, y5⟩ := eb_trs ko hi
          have T := p.tray i hi
          rw [ht] at T
          have T' : eb_I h (s_trays_0 + 1048576 * i) 2 = 1 := T
          refine T_X10_judge (d := 1298) _ _ ko ⟨fun z => absurd z (ec_tray4.mpr hx), fun _ => ⟨fun z => absurd z (x2.mpr hy).1, fun _ => ⟨fun _ => ⟨vp_in_nI hi (by omega), _, by rw [eb_cln (by omega)]; exact y1, y2, fun z => ?_, fun _ => q h (eb_fx.rfl ko) p⟩, fun z => absurd (x2.mpr hy).2 z⟩⟩⟩
          rw [T'] at z
          exact absurd z (by decide)
        · refine T_X11_judge (d := 1298) _ _ ko ⟨fun _ => ?_, fun z => absurd (ec_tray4m.mpr hy) z⟩
          rw [← eg]
          exact M_noTray (d := 1297) p ok kog i hi (fun _ => ⟨_, rfl, kog, fun z => absurd z (by decide), fun _ => q g (eb_fm.rfl kog) p⟩) (fun t z => by rw [ht] at z; cases z)
      | some t =>
        obtain ⟨o1, o2⟩ := ok.tray i t hi ht
        obtain ⟨al1, al2, al3, al4⟩ := ec_all_le (V := w.va) (f := t.val) t.size.toInt.toNat 0 w.now
        have os := ec_all_ok (f := t.val) ok.va t.size.toInt.toNat 0 w.now ok.now
        obtain ⟨n1, n2, n3, n4, n5, n6, n7⟩ := os.N ok.va
        have tl : ec_told w.va t.val t.size.toInt.toNat (ec_all w.va t.val t.size.toInt.toNat 0 w.now) < 5 := by
          unfold ec_told
          split
          · omega
          · exact ec_dw_lt _
        have tsz : t.size = nI t.size.toInt.toNat := eb_ofn o2.1
        refine ⟨if v2 = 0 then (if (ec_all w.va t.val t.size.toInt.toNat 0 w.now).1 = t.size.toInt.toNat then -1 else nI (ec_all w.va t.val t.size.toInt.toNat 0 w.now).1) else if v2 = 1 then nI (ec_told w.va t.val t.size.toInt.toNat (ec_all w.va t.val t.size.toInt.toNat 0 w.now)) else if v2 = 2 then nI (ec_all w.va t.val t.size.toInt.toNat 0 w.now).2.b else nI (ec_all w.va t.val t.size.toInt.toNat 0 w.now).2.e, w, ok, by omega, eb_XS.of (fun h ko p Q q => ?_), eb_MS.of (fun h g ko eg kog p Q q => ?_)⟩
        · obtain ⟨y1, y2, y3, y4, y5⟩ := eb_trs ko hi
          have T := p.tray i hi
          rw [ht] at T
          refine T_X10_judge (d := 1298) _ _ ko ⟨fun z => absurd z (ec_tray4.mpr hx), fun _ => ⟨fun z => absurd z (x2.mpr hy).1, fun _ => ⟨fun _ => ⟨vp_in_nI hi (by omega), _, by rw [eb_cln (by omega)]; exact y1, y2, fun _ => ?_, fun z => absurd T.1 z⟩, fun z => absurd (x2.mpr hy).2 z⟩⟩⟩
          refine C_trial (d := 1297) p ko (fun h1 pt G => ⟨rfl, G.ko ko, ?_⟩)
          refine T_X10_doAll (d := 1297) _ _ y2 ec_trial.1.1 (G.ko ko) ?_
          refine C_all (d := 1291) p ok ko s_trial ec_trial.1 ec_trial.2.2.2 (by unfold eb_isV eb_ix s_trial; omega) (fun c z => Or.inl (ec_tdaT c z)) i hi t ht t.size.toInt.toNat 0 h1 w.now (Nat.zero_add _) pt ok.now (G.weak (fun c z => Or.inl z)) (fun h2 G2 ps2 => ?_)
          have G3 : ec_gf ec_sc h h2 := G.trans (G2.weak ec_tdaT)
          have ko2 := G3.ko ko
          have nt : ¬ ec_sc (s_trays_0 + 1048576 * i) ∧ ¬ ec_sc (s_trays_0_values + 1048576 * i) := by
            unfold ec_sc ec_19 eb_kd eb_ix s_trays_0 s_trays_0_values; omega
          have k3 : eb_I h2 (s_trays_0 + 1048576 * i) 3 = nI t.size.toInt.toNat := by rw [G3.at nt.1, T.2.2.1]; exact tsz
          refine ⟨_, rfl, ko2, ?_⟩
          rw [k3]
          have fin := fun h' (G' : ec_gf ec_sc h h') => q h' (G'.fx ko ec_sc_M) (G'.px p ec_sc_W)
          refine ⟨fun z => ?_, fun z => ⟨fun y => ?_, fun y => ?_⟩, fun z => ?_, fun z0 z1 z2 => ?_⟩
          · have := fin h2 G3
            rw [if_pos z] at this
            by_cases e : (ec_all w.va t.val t.size.toInt.toNat 0 w.now).1 = t.size.toInt.toNat
            · rw [if_pos e] at this
              rw [if_pos (by rw [e])]
              exact this
            · rw [if_neg e] at this
              rw [if_neg (by rw [nI_eq (by omega) (by omega)]; exact e)]
              exact this
          · rw [nI_eq (by omega) (by omega)] at y
            obtain ⟨v, ev, pv⟩ := p.va
            obtain ⟨u1, u2, u3, u4, u5⟩ := eb_trs ko2 hi
            refine ⟨v, by rw [G3.R]; exact ev, pv.1.1, fun x => absurd x (nI_pos (by omega)), fun _ => ⟨_, u3, u4, fun x => ?_, fun _ => ⟨?_, ?_⟩⟩⟩
            · exfalso
              rw [u5] at x
              exact nI_ge (a := (ec_all w.va t.val t.size.toInt.toNat 0 w.now).1) (b := 40) (by omega) (by omega) x
            · rw [u5]; exact vp_in_nI (by omega) (by omega)
            · have ej : eb_J h2 (s_trays_0_values + 1048576 * i) (nI (ec_all w.va t.val t.size.toInt.toNat 0 w.now).1).toNatClampNeg = t.val (ec_all w.va t.val t.size.toInt.toNat 0 w.now).1 := by
                rw [eb_cln (by omega), (G3.2 _ nt.2).2.1]
                exact T.2.2.2 _ (by omega) (by omega)
              rw [ej]
              have nz := al3 (by omega)
              have et : ec_told w.va t.val t.size.toInt.toNat (ec_all w.va t.val t.size.toInt.toNat 0 w.now) = ec_dw w.va (ec_all w.va t.val t.size.toInt.toNat 0 w.now).2 (ec_xn (t.val (ec_all w.va t.val t.size.toInt.toNat 0 w.now).1)) := by
                unfold ec_told
                rw [if_neg y]
              refine C_dd (d := 1292) (pv.gr G3 ec_sc_V) ps2 ec_trial.1 ec_trial.2.2.2 ok.va os _ ko2 (fun h' F x => ⟨_, rfl, F.ko ko2, ?_⟩) (fun h' x _ _ => absurd x nz)
              have := fin h' (G3.trans (F.gr.weak ec_19_sc))
              rw [z, if_neg (by decide), if_pos rfl, et] at this
              exact this
          · rw [nI_eq (by omega) (by omega)] at y
            have := fin h2 G3
            rw [z, if_neg (by decide), if_pos rfl] at this
            unfold ec_told at this
            rw [if_pos y] at this
            exact this
          · have := fin h2 G3
            rw [z, if_neg (by decide), if_neg (by decide), if_pos rfl] at this
            rw [ps2.1, n1]
            exact this
          · have := fin h2 G3
            rw [if_neg z0, if_neg z1, if_neg z2] at this
            rw [ps2.2.1, n2]
            exact this
        · refine T_X11_judge (d := 1298) _ _ ko ⟨fun _ => ?_, fun z => absurd (ec_tray4m.mpr hy) z⟩
          rw [← eg]
          refine M_noTray (d := 1297) p ok kog i hi (fun z => by rw [ht] at z; cases z) (fun t' _ => ⟨_, rfl, kog, fun _ => ?_, fun z => absurd rfl z⟩)
          refine M_keep p kog (fun h8 F8 p8 wq => ⟨rfl, F8.ko kog, ?_⟩)
          have ko8 := F8.ko kog
          refine M_tells (d := 1293) p8 ok ko8 i hi t ht (fun h11 f11 p11 e19 ew => ⟨_, rfl, f11.1, ?_⟩)
          refine M_back _ os p11 ok f11.1 (by rw [ew]; exact wq) (fun h14 f14 p14 e14 => ⟨rfl, f14.1, ?_⟩)
          have fin := q h14 ((F8.fm kog (fun c z => ec_mw3 c (Or.inr (Or.inr z)))).trans (f11.trans f14)) p14
          rw [e14, e19, ec_stand p11.now ok.va os]
          obtain ⟨q1, q2⟩ := ec_stq (b := (ec_all w.va t.val t.size.toInt.toNat 0 w.now).2.b) (by omega) n5
          have q1' : nI (64 * ((w.setNP (ec_all w.va t.val t.size.toInt.toNat 0 w.now).2 w.past).now).b + ((w.setNP (ec_all w.va t.val t.size.toInt.toNat 0 w.now).2 w.past).now).e) / 64 = nI (ec_all w.va t.val t.size.toInt.toNat 0 w.now).2.b := q1
          have q2' : nI (64 * ((w.setNP (ec_all w.va t.val t.size.toInt.toNat 0 w.now).2 w.past).now).b + ((w.setNP (ec_all w.va t.val t.size.toInt.toNat 0 w.now).2 w.past).now).e) - nI (64 * ((w.setNP (ec_all w.va t.val t.size.toInt.toNat 0 w.now).2 w.past).now).b + ((w.setNP (ec_all w.va t.val t.size.toInt.toNat 0 w.now).2 w.past).now).e) / 64 * 64 = nI (ec_all w.va t.val t.size.toInt.toNat 0 w.now).2.e := q2
          rw [q2', q1']
          have ei : (if nI (ec_told w.va t.val t.size.toInt.toNat (ec_all w.va t.val t.size.toInt.toNat 0 w.now)) = 0 then (-1) else nI (ec_all w.va t.val t.size.toInt.toNat 0 w.now).1 : Int32) = (if (ec_all w.va t.val t.size.toInt.toNat 0 w.now).1 = t.size.toInt.toNat then -1 else nI (ec_all w.va t.val t.size.toInt.toNat 0 w.now).1) := by
            by_cases e : (ec_all w.va t.val t.size.toInt.toNat 0 w.now).1 = t.size.toInt.toNat
            · rw [if_pos e, if_pos (by unfold ec_told; rw [if_pos e]; rfl)]
            · rw [if_neg e, if_neg]
              have nz := al3 (by omega)
              refine nI_ne0 ?_ (by omega)
              unfold ec_told
              rw [if_neg e]
              omega
          rw [ei]
          exact fin
    · refine ⟨-2, w, ok, by omega, eb_XS.of (fun h ko p Q q => ?_), eb_MS.of (fun h g ko eg kog p Q q => ?_)⟩
      · exact T_X10_judge (d := 1298) _ _ ko ⟨fun _ => q h (eb_fx.rfl ko) p, fun z => absurd (ec_tray4.mp z) hx⟩
      · refine T_X11_judge (d := 1298) _ _ ko ⟨fun _ => ?_, fun z => absurd (ec_tray4m.mpr hy) z⟩
        rw [← eg]
        exact M_noTray1 (d := 1297) v1 hx kog ⟨_, rfl, kog, fun z => absurd z (by decide), fun _ => q g (eb_fm.rfl kog) p⟩
  · refine ⟨-2, w, ok, by omega, eb_XS.of (fun h ko p Q q => ?_), eb_MS.of (fun h g ko eg kog p Q q => ?_)⟩
    · have fin := q h (eb_fx.rfl ko) p
      exact T_X10_judge (d := 1298) _ _ ko ⟨fun _ => fin, fun _ => ⟨fun _ => fin, fun z => ⟨fun y => absurd (x2.mp ⟨z, y⟩) hy, fun _ => fin⟩⟩⟩
    · refine T_X11_judge (d := 1298) _ _ ko ⟨fun z => absurd (ec_tray4m.mp z) hy, fun _ => ?_⟩
      rw [← eg]
      exact q g (eb_fm.rfl kog) p
/-- 16: perform -/
theorem c_perform (k : Nat) (h : eb_H) (v1 : Int32) (inv : eb_Inv L xs k h) : eb_Pr 110 223 [.int v1] (eb_Inv L xs (k + 1)) h := by
  refine eb_pr inv (fun w ok => ?_)
  by_cases hx : 0 ≤ v1.toInt ∧ v1.toInt < (4 : Nat)
  · obtain ⟨i, hi, rfl⟩ := ec_in hx
    cases ht : w.tray i with
    | none =>
      refine ⟨-6, w, ok, by omega, eb_XS.of (fun h ko p Q q => ?_), eb_MS.of (fun h g ko eg kog p Q q => ?_)⟩
      · obtain ⟨y1, y2, y3, y4, y5⟩ := eb_trs ko hi
        have T := p.tray i hi
        rw [ht] at T
        have T' : eb_I h (s_trays_0 + 1048576 * i) 2 = 1 := T
        refine T_X10_perform (d := 1298) _ ko ⟨fun _ => ⟨vp_in_nI hi (by omega), _, by rw [eb_cln (by omega)]; exact y1, y2, fun z => ?_, fun _ => q h (eb_fx.rfl ko) p⟩, fun z => absurd z (ec_tray4.mpr hx)⟩
        rw [T'] at z
        exact absurd z (by decide)
      · refine T_X11_perform (d := 1298) _ ko ?_
        rw [← eg]
        exact M_noTray (d := 1297) p ok kog i hi (fun _ => ⟨_, rfl, kog, fun z => absurd z (by decide), fun _ => q g (eb_fm.rfl kog) p⟩) (fun t z => by rw [ht] at z; cases z)
    | some t =>
      obtain ⟨o1, o2⟩ := ok.tray i t hi ht
      obtain ⟨al1, al2, al3, al4⟩ := ec_all_le (V := w.va) (f := t.val) t.size.toInt.toNat 0 w.now
      have os := ec_all_ok (f := t.val) ok.va t.size.toInt.toNat 0 w.now ok.now
      refine ⟨nI (ec_all w.va t.val t.size.toInt.toNat 0 w.now).1, if (ec_all w.va t.val t.size.toInt.toNat 0 w.now).1 = 0 then w else w.setNP (ec_all w.va t.val t.size.toInt.toNat 0 w.now).2 ((w.now :: w.past).take 10), ?_, ?_, eb_XS.of (fun h ko p Q q => ?_), eb_MS.of (fun h g ko eg kog p Q q => ?_)⟩
      · split
        · exact ok
        · exact ok.setN1 _ os
      · split
        · omega
        · show w.fed ≤ _
          omega
      · obtain ⟨y1, y2, y3, y4, y5⟩ := eb_trs ko hi
        have T := p.tray i hi
        rw [ht] at T
        refine T_X10_perform (d := 1298) _ ko ⟨fun _ => ⟨vp_in_nI hi (by omega), _, by rw [eb_cln (by omega)]; exact y1, y2, fun _ => ?_, fun z => absurd T.1 z⟩, fun z => absurd z (ec_tray4.mpr hx)⟩
        refine C_before (d := 1297) p ko (fun h1 pb G => ⟨rfl, G.ko ko, vp_in_nI hi (by omega), _, by rw [eb_cln (by omega), G.R]; exact y1, ?_⟩)
        refine T_X10_doAll (d := 1297) _ _ y2 ec_nowS.1.1 (G.ko ko) ?_
        refine C_all (d := 1291) p ok ko s_now ec_nowS.1 ec_nowS.2.2.2 (by unfold eb_isV eb_ix s_now; omega) ec_dn i hi t ht t.size.toInt.toNat 0 h1 w.now (Nat.zero_add _) (p.now.gr G ec_nowS.2.1 ec_nowS.2.2.1) ok.now (G.weak (fun c z => Or.inl z)) (fun h2 G2 ps2 => ?_)
        have G3 : ec_gf ec_sn h h2 := (G.weak (fun c z => Or.inl z)).trans (G2.weak ec_dn)
        refine ⟨_, rfl, G3.ko ko, fun z => ?_, fun z => ?_⟩
        · have z0 : (ec_all w.va t.val t.size.toInt.toNat 0 w.now).1 = 0 := by
            refine Classical.byContradiction fun y => ?_
            exact nI_nle (by omega) (by omega) z
          rw [al4 z0] at ps2
          have := q h2 (G3.fx ko ec_sn_M)
          rw [if_pos z0] at this
          refine this ?_
          have pp : PXP h2 w.past := p.pp.mv (G3.2.weak (fun c z y => by
            unfold ec_pst at z
            rcases y with y | y
            · unfold ec_sc ec_19 at y
              omega
            · omega))
          exact p.setNP w.now w.past (G3.2.weak (fun c z => ec_sn_W c z)) ps2 pp
        · have z0 : ¬ (ec_all w.va t.val t.size.toInt.toNat 0 w.now).1 = 0 := fun y => z (by rw [y]; exact Int32.le_refl _)
          rw [if_neg z0] at q
          exact X_rem (d := 1296) p ok ko G3 _ (ec_bef G2 (fun c z => z) pb) ps2 (fun h3 a b c => ⟨rfl, a.1, q h3 a b⟩)
      · refine T_X11_perform (d := 1298) _ ko ?_
        rw [← eg]
        refine M_noTray (d := 1297) p ok kog i hi (fun z => by rw [ht] at z; cases z) (fun t' _ => ⟨_, rfl, kog, fun _ => ?_, fun z => absurd rfl z⟩)
        refine M_keep p kog (fun h8 F8 p8 wq => ⟨rfl, F8.ko kog, ?_⟩)
        have ko8 := F8.ko kog
        refine M_tells (d := 1293) p8 ok ko8 i hi t ht (fun h11 f11 p11 e19 ew => ⟨_, rfl, f11.1, fun z => ?_, fun z => ?_⟩)
        · have z0 : (ec_all w.va t.val t.size.toInt.toNat 0 w.now).1 = 0 := by
            refine Classical.byContradiction fun y => ?_
            exact nI_nle (by omega) (by omega) z
          rw [al4 z0] at p11
          rw [if_pos z0] at q
          exact q h11 ((F8.fm kog (fun c z => ec_mw3 c (Or.inr (Or.inr z)))).trans f11) p11
        · have z0 : ¬ (ec_all w.va t.val t.size.toInt.toNat 0 w.now).1 = 0 := fun y => z (by rw [y]; exact Int32.le_refl _)
          rw [if_neg z0] at q
          refine M_rem _ os p11 ok (by rw [ew]; exact wq) f11.1 (fun h4 fm p4 pn4 w4 => ⟨rfl, fm.1, ?_⟩)
          exact q h4 ((F8.fm kog (fun c z => ec_mw3 c (Or.inr (Or.inr z)))).trans (f11.trans fm)) p4
  · refine ⟨-2, w, ok, by omega, eb_XS.of (fun h ko p Q q => ?_), eb_MS.of (fun h g ko eg kog p Q q => ?_)⟩
    · refine T_X10_perform (d := 1298) _ ko ⟨fun z => absurd (ec_tray4.mp z) hx, fun _ => q h (eb_fx.rfl ko) p⟩
    · refine T_X11_perform (d := 1298) _ ko ?_
      rw [← eg]
      exact M_noTray1 (d := 1297) v1 hx kog ⟨_, rfl, kog, fun z => absurd z (by decide), fun _ => q g (eb_fm.rfl kog) p⟩
end EBJUDGE
