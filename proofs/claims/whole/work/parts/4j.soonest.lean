section EBSOON
variable {L : Nat} {xs : Nat → Int32}
theorem ec_FD.none {g : Nat → Nat → Option Nat} {s0 N : Nat} {G : Nat → Prop} {f : Nat → Nat} (i : ec_FD g G N f) (hs : s0 < N) (no : ∀ m, ec_rc g s0 m → ¬ G m) : f s0 = 268435456 := by
  have b := i.1 s0 hs
  refine Classical.byContradiction fun z => ?_
  obtain ⟨m, h1, h2⟩ := ec_wk_rc (f s0) s0 (b.2.1 (by omega)) (ec_rc.base g s0)
  exact no m h1 h2
theorem ec_nums {w : eb_Wo} {v1 v2 v3 : Int32} (hC : ec_okC w v1) (hE : ec_okE v2 v3) : ∃ c a b, (c < w.va.R * w.va.W ∧ v1 = nI c) ∧ (a < 64 ∧ v2 = nI a) ∧ (b < 64 ∧ v3 = nI b) := by
  obtain ⟨c, hc, rfl⟩ := ec_in hC
  obtain ⟨a, ha, rfl⟩ := ec_in hE.1
  obtain ⟨b, hb, rfl⟩ := ec_in hE.2.1
  exact ⟨c, a, b, ⟨hc, rfl⟩, ⟨ha, rfl⟩, ⟨hb, rfl⟩⟩
/-- no flight comes there -/
def ec_no (w : eb_Wo) (c a b : Nat) : Prop := ∀ m, ec_rc (ec_g w.va w.now w.now.D) (64 * w.now.b + w.now.e) m → ¬ ec_goal c a b m
/-- the flight that comes there -/
def ec_fli (w : eb_Wo) (c a b D : Nat) (st wy : Nat → Nat) : Prop := ec_tr (ec_g w.va w.now w.now.D) (64 * w.now.b + w.now.e) (64 * (w.va.R * w.va.W)) (ec_goal c a b) D st wy
theorem C_co {d : Nat} {h : eb_H} {Q : Option Value → eb_H → Prop} {w : eb_Wo} (p : PX w h) (ko : eb_KO h) (ok : eb_okW w) (c a b : Nat) (hc : c < w.va.R * w.va.W) (ha : a < 64) (hb : b < 64) (q1 : ∀ h', ec_ff h h' → ec_FL w.va w.now w.now.D h' → ec_no w c a b → Q (some (.int (-1))) h') (q2 : ∀ h' D st wy, ec_ff h h' → ec_FL w.va w.now w.now.D h' → ec_fli w c a b D st wy → eb_I h' s_flights 5 = nI D → (∀ j, j < D → eb_I h' s_flights_trace (1023 - j) = nI (wy j)) → eb_I h' s_flights 3 = nI (ec_bsn (fun c => ∃ j, j < D ∧ st j / 64 = c) 16) → Q (some (.int (nI D))) h') : ∃ v, eb_R h s_EB 2 = some v ∧ eb_kd v = 9 ∧ eb_Ct (d + 7) 8 [.ref s_flights, .ref v, .ref s_now] h (fun r h4 => r = none ∧ eb_KO h4 ∧ eb_Ct (d + 7) 12 [.ref s_flights, .int (nI c), .int (nI a), .int (nI b)] h4 Q) := by
  have r10 := ok.va.RW.2.2.2.2.2.2.2.2.2.1
  obtain ⟨n1, n2, n3, n4, n5, n6, n7⟩ := ok.now.N ok.va
  refine C_start (d := d + 5) p ko ok (fun v h' _ ff fl => ⟨rfl, ff.1, ?_⟩)
  exact C_tc (d := d) ok.va ok.now w.now.D n6 fl c a b (by omega) ha hb ff.1 (fun h2 F f no => q1 h2 (ff.gf F.gr ec_f6_s) f no) (fun h2 D st wy F f t e5 et e3 => q2 h2 D st wy (ff.gf F.gr ec_f6_s) f t e5 et e3)
theorem ec_q268 : nI 268435456 = (268435456 : Int32) := rfl
/-- 18: soonest -/
theorem c_soonest (k : Nat) (h : eb_H) (v1 v2 v3 : Int32) (inv : eb_Inv L xs k h) : eb_Pr 112 235 [.int v1, .int v2, .int v3] (eb_Inv L xs (k + 1)) h := by
  refine eb_pr2 inv (fun w ok => ?_)
  have r10 := ok.va.RW.2.2.2.2.2.2.2.2.2.1
  obtain ⟨n1, n2, n3, n4, n5, n6, n7⟩ := ok.now.N ok.va
  by_cases hC : ec_okC w v1
  · by_cases hE : ec_okE v2 v3
    · obtain ⟨c, a, b, ⟨hc, rfl⟩, ⟨ha, rfl⟩, ⟨hb, rfl⟩⟩ := ec_nums hC hE
      refine ⟨fun y w' => w' = w ∧ ((y = -1 ∧ ec_no w c a b) ∨ ∃ D st wy, ec_fli w c a b D st wy ∧ y = nI D), ?_, fun h ko p => ?_, ?_⟩
      · rintro y w' ⟨rfl, _⟩
        exact ⟨ok, by omega⟩
      · refine T_X10_soonest (d := 1298) _ _ _ ko (C_cr (d := 1296) p ok _ _ _ ko (fun _ _ => ⟨_, rfl, ko, fun _ => ?_, fun z => absurd rfl z⟩) (fun _ z => absurd hE z) (fun z => absurd hC z))
        exact C_co (d := 1291) p ko ok c a b hc ha hb (fun h2 ff fl no => ⟨_, rfl, ff.1, _, w, rfl, ff.fx, ff.px p, rfl, Or.inl ⟨rfl, no⟩⟩) (fun h2 D st wy ff fl t e5 et e3 => ⟨_, rfl, ff.1, _, w, rfl, ff.fx, ff.px p, rfl, Or.inr ⟨D, st, wy, t, rfl⟩⟩)
      · rintro y w' ⟨rfl, alt⟩
        refine eb_MS.of (fun h g ko eg kog p Q q => ?_)
        refine T_X11_soonest (d := 1298) _ _ _ ko ?_
        rw [← eg]
        refine M_nc (d := 1296) p ok _ _ _ kog (fun _ _ => ⟨_, rfl, kog, fun _ => ?_, fun z => absurd rfl z⟩) (fun _ z => absurd hE z) (fun z => absurd hC z)
        refine M_far (d := 1294) p ok kog c a b (by omega) ha hb (fun g' f F th ef fd => ⟨_, rfl, F.ko kog, ?_⟩)
        have fin : ∀ y', y' = y → Q (some (.int y')) g' := fun y' e => by
          rw [e]
          exact q g' (F.fm kog ec_mf_M) (p.mf F)
        apply fin
        rcases alt with ⟨rfl, no⟩ | ⟨D, st, wy, t, rfl⟩
        · rw [fd.none (by omega) no, if_pos ec_q268]
        · have := fd.tr t (by omega) D (Nat.le_refl _)
          have dN := t.1.1
          rw [t.1.2.1] at this
          rw [this, if_neg]
          intro z
          rw [← ec_q268, nI_eq (by omega) (by omega)] at z
          omega
    · refine ⟨fun y w' => w' = w ∧ y = -3, ?_, fun h ko p => ?_, ?_⟩
      · rintro y w' ⟨rfl, _⟩
        exact ⟨ok, by omega⟩
      · exact T_X10_soonest (d := 1298) _ _ _ ko (C_cr (d := 1296) p ok _ _ _ ko (fun _ z => absurd z hE) (fun _ _ => ⟨_, rfl, ko, fun z => absurd z (by decide), fun _ => ⟨_, w, rfl, eb_fx.rfl ko, p, rfl, rfl⟩⟩) (fun z => absurd hC z))
      · rintro y w' ⟨rfl, rfl⟩
        refine eb_MS.of (fun h g ko eg kog p Q q => ?_)
        refine T_X11_soonest (d := 1298) _ _ _ ko ?_
        rw [← eg]
        exact M_nc (d := 1296) p ok _ _ _ kog (fun _ z => absurd z hE) (fun _ _ => ⟨_, rfl, kog, fun z => absurd z (by decide), fun _ => q g (eb_fm.rfl kog) p⟩) (fun z => absurd hC z)
  · refine ⟨fun y w' => w' = w ∧ y = -2, ?_, fun h ko p => ?_, ?_⟩
    · rintro y w' ⟨rfl, _⟩
      exact ⟨ok, by omega⟩
    · exact T_X10_soonest (d := 1298) _ _ _ ko (C_cr (d := 1296) p ok _ _ _ ko (fun z _ => absurd z hC) (fun z _ => absurd z hC) (fun _ => ⟨_, rfl, ko, fun z => absurd z (by decide), fun _ => ⟨_, w, rfl, eb_fx.rfl ko, p, rfl, rfl⟩⟩))
    · rintro y w' ⟨rfl, rfl⟩
      refine eb_MS.of (fun h g ko eg kog p Q q => ?_)
      refine T_X11_soonest (d := 1298) _ _ _ ko ?_
      rw [← eg]
      exact M_nc (d := 1296) p ok _ _ _ kog (fun z _ => absurd z hC) (fun z _ => absurd z hC) (fun _ => ⟨_, rfl, kog, fun z => absurd z (by decide), fun _ => q g (eb_fm.rfl kog) p⟩)
/-- 19: way -/
theorem c_way (k : Nat) (h : eb_H) (v1 v2 v3 v4 : Int32) (inv : eb_Inv L xs k h) : eb_Pr 113 236 [.int v1, .int v2, .int v3, .int v4] (eb_Inv L xs (k + 1)) h := by
  refine eb_pr2 inv (fun w ok => ?_)
  have r10 := ok.va.RW.2.2.2.2.2.2.2.2.2.1
  obtain ⟨n1, n2, n3, n4, n5, n6, n7⟩ := ok.now.N ok.va
  by_cases hC : ec_okC w v1
  · by_cases hE : ec_okE v2 v3
    · by_cases hI : 0 ≤ v4
      · obtain ⟨c, a, b, ⟨hc, rfl⟩, ⟨ha, rfl⟩, ⟨hb, rfl⟩⟩ := ec_nums hC hE
        obtain ⟨i, hi, rfl⟩ := nI_of (x := v4) (fun z => by rw [eb_i32] at z; rw [eb_i32e] at hI; omega)
        refine ⟨fun y w' => w' = w ∧ ((y = -1 ∧ ec_no w c a b) ∨ ∃ D st wy, ec_fli w c a b D st wy ∧ y = if i < D then nI (wy (D - 1 - i)) else -1), ?_, fun h ko p => ?_, ?_⟩
        · rintro y w' ⟨rfl, _⟩
          exact ⟨ok, by omega⟩
        · refine T_X10_way (d := 1298) _ _ _ _ ko (C_cr (d := 1296) p ok _ _ _ ko (fun _ _ => ⟨_, rfl, ko, fun _ => ⟨fun _ => ?_, fun z => absurd hI z⟩, fun z => absurd rfl z⟩) (fun _ z => absurd hE z) (fun z => absurd hC z))
          refine C_co (d := 1291) p ko ok c a b hc ha hb (fun h2 ff fl no => ⟨_, rfl, ff.1, fun _ => ⟨_, w, rfl, ff.fx, ff.px p, rfl, Or.inl ⟨rfl, no⟩⟩, fun z => absurd ?_ z⟩) (fun h2 D st wy ff fl t e5 et e3 => ⟨_, rfl, ff.1, ?_⟩)
          · rw [eb_i32e, nI_toInt hi]
            show (-1 : Int) ≤ _
            omega
          · have dN := t.1.1
            rw [nI_leI (by omega) hi, e5]
            refine ⟨fun z => ⟨_, w, rfl, ff.fx, ff.px p, rfl, Or.inr ⟨D, st, wy, t, (if_neg (by omega)).symm⟩⟩, fun z => ?_⟩
            have e1 : (1024 : Int32) - nI D = nI (1024 - D) := pk_sub (a := 1024) (by omega)
            rw [e1, nI_add, eb_cln (n := 1024 - D + i) (by omega), show 1024 - D + i = 1023 - (D - 1 - i) by omega, et (D - 1 - i) (by omega)]
            refine ⟨fun u => absurd u (nI_pos (by omega)), fun _ => ⟨fun u => absurd u (nI_ge (b := 1024) (by omega) (by omega)), fun _ => ⟨vp_in_nI (by omega) (by omega), ?_⟩⟩⟩
            exact ⟨_, w, rfl, ff.fx, ff.px p, rfl, Or.inr ⟨D, st, wy, t, (if_pos (by omega)).symm⟩⟩
        · rintro y w' ⟨rfl, alt⟩
          refine eb_MS.of (fun h g ko eg kog p Q q => ?_)
          refine T_X11_way (d := 1298) _ _ _ _ ko ?_
          rw [← eg]
          refine M_nc (d := 1296) p ok _ _ _ kog (fun _ _ => ⟨_, rfl, kog, fun _ => ⟨fun _ => ?_, fun z => absurd hI z⟩, fun z => absurd rfl z⟩) (fun _ z => absurd hE z) (fun z => absurd hC z)
          refine M_far (d := 1294) p ok kog c a b (by omega) ha hb (fun g' f F th ef fd => ⟨_, rfl, F.ko kog, ?_⟩)
          have fin : Q (some (.int y)) g' := q g' (F.fm kog ec_mf_M) (p.mf F)
          rcases alt with ⟨rfl, no⟩ | ⟨D, st, wy, t, rfl⟩
          · exact M_sn (d := 1297) (p.mf F) ok (F.ko kog) ef (fd.none (by omega) no) _ ⟨_, rfl, F.ko kog, fin⟩
          · exact M_sa (d := 1297) (p.mf F).now ok (F.ko kog) th ef fd t i hi ⟨_, rfl, F.ko kog, fin⟩
      · refine ⟨fun y w' => w' = w ∧ y = -3, ?_, fun h ko p => ?_, ?_⟩
        · rintro y w' ⟨rfl, _⟩
          exact ⟨ok, by omega⟩
        · exact T_X10_way (d := 1298) _ _ _ _ ko (C_cr (d := 1296) p ok _ _ _ ko (fun _ _ => ⟨_, rfl, ko, fun _ => ⟨fun z => absurd z hI, fun _ => ⟨_, w, rfl, eb_fx.rfl ko, p, rfl, rfl⟩⟩, fun z => absurd rfl z⟩) (fun _ z => absurd hE z) (fun z => absurd hC z))
        · rintro y w' ⟨rfl, rfl⟩
          refine eb_MS.of (fun h g ko eg kog p Q q => ?_)
          refine T_X11_way (d := 1298) _ _ _ _ ko ?_
          rw [← eg]
          exact M_nc (d := 1296) p ok _ _ _ kog (fun _ _ => ⟨_, rfl, kog, fun _ => ⟨fun z => absurd z hI, fun _ => q g (eb_fm.rfl kog) p⟩, fun z => absurd rfl z⟩) (fun _ z => absurd hE z) (fun z => absurd hC z)
    · refine ⟨fun y w' => w' = w ∧ y = -3, ?_, fun h ko p => ?_, ?_⟩
      · rintro y w' ⟨rfl, _⟩
        exact ⟨ok, by omega⟩
      · exact T_X10_way (d := 1298) _ _ _ _ ko (C_cr (d := 1296) p ok _ _ _ ko (fun _ z => absurd z hE) (fun _ _ => ⟨_, rfl, ko, fun z => absurd z (by decide), fun _ => ⟨_, w, rfl, eb_fx.rfl ko, p, rfl, rfl⟩⟩) (fun z => absurd hC z))
      · rintro y w' ⟨rfl, rfl⟩
        refine eb_MS.of (fun h g ko eg kog p Q q => ?_)
        refine T_X11_way (d := 1298) _ _ _ _ ko ?_
        rw [← eg]
        exact M_nc (d := 1296) p ok _ _ _ kog (fun _ z => absurd z hE) (fun _ _ => ⟨_, rfl, kog, fun z => absurd z (by decide), fun _ => q g (eb_fm.rfl kog) p⟩) (fun z => absurd hC z)
  · refine ⟨fun y w' => w' = w ∧ y = -2, ?_, fun h ko p => ?_, ?_⟩
    · rintro y w' ⟨rfl, _⟩
      exact ⟨ok, by omega⟩
    · exact T_X10_way (d := 1298) _ _ _ _ ko (C_cr (d := 1296) p ok _ _ _ ko (fun z _ => absurd z hC) (fun z _ => absurd z hC) (fun _ => ⟨_, rfl, ko, fun z => absurd z (by decide), fun _ => ⟨_, w, rfl, eb_fx.rfl ko, p, rfl, rfl⟩⟩))
    · rintro y w' ⟨rfl, rfl⟩
      refine eb_MS.of (fun h g ko eg kog p Q q => ?_)
      refine T_X11_way (d := 1298) _ _ _ _ ko ?_
      rw [← eg]
      exact M_nc (d := 1296) p ok _ _ _ kog (fun z _ => absurd z hC) (fun z _ => absurd z hC) (fun _ => ⟨_, rfl, kog, fun z => absurd z (by decide), fun _ => q g (eb_fm.rfl kog) p⟩)
end EBSOON
