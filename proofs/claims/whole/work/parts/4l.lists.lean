section EBLISTS
variable {L : Nat} {xs : Nat → Int32}
theorem ec_cut4 (s : Int32) : ∀ y, y < 4 → eb_cut s (nI y).toInt64 = (nI y).toInt64 := by
  intro y hy
  have h : y = 0 ∨ y = 1 ∨ y = 2 ∨ y = 3 := by omega
  unfold eb_cut
  rcases h with rfl | rfl | rfl | rfl <;> (split <;> (try split) <;> (try split) <;> rfl)
theorem ec_J_sJ' {h : eb_H} {i k : Nat} {v : Int64} {c : Nat} (e : c ≠ i) : eb_J (eb_sJ h i k v) c = eb_J h c := by
  simp [eb_J, eb_sJ, eb_rJ, va_up, e]
/-- the tray's numbers behind a list -/
def ec_ltd (t : eb_Ty) (n : Nat) (D : Nat) (wy : Nat → Nat) : eb_Ty := (t.sort, t.size, fun j => if j < n then (nI (wy (D - 1 - j))).toInt64 else t.val j)
/-- 40: lists -/
theorem c_lists (k : Nat) (h : eb_H) (v1 v2 v3 v4 : Int32) (inv : eb_Inv L xs k h) : eb_Pr 135 279 [.int v1, .int v2, .int v3, .int v4] (eb_Inv L xs (k + 1)) h := by
  refine eb_pr2 inv (fun w ok => ?_)
  obtain ⟨r1, r2, r3, r4, r5, r6, r7, r8, r9, r10, _⟩ := ok.va.RW
  obtain ⟨n1, n2, n3, n4, n5, n6, n7⟩ := ok.now.N ok.va
  have same2 : ∀ z : Int32, ∀ y w', (w' = w ∧ y = z) → eb_okW w' ∧ w'.fed ≤ w.fed + 20 := by
    rintro z y w' ⟨rfl, _⟩
    exact ⟨ok, by omega⟩
  by_cases rg : 0 ≤ v1.toInt ∧ v1.toInt < (4 : Nat)
  · obtain ⟨i, hi, rfl⟩ := ec_in rg
    have nc : ¬ ((nI i < 0) ∨ (¬ (nI i < (4 : Int32)))) := by
      rintro (z | z)
      · exact nI_pos (by omega) z
      · exact z (nI_lt (b := 4) hi (by omega))
    have mc : (¬ ((nI i).toInt64 < 0)) ∧ (¬ (3 < (nI i).toInt64)) := by rw [eb_l64a, eb_l64b, eb_z64, eb_d3]; omega
    have vi : vp_in (nI i) 4 := vp_in_nI hi (by omega)
    have ci : (nI i).toNatClampNeg = i := eb_cln (by omega)
    by_cases hC : ec_okC w v2
    · cases ht : w.tray i with
      | none =>
        refine ⟨fun y w' => w' = w ∧ y = -6, same2 _, fun h ko p => ?_, ?_⟩
        · obtain ⟨v, ev, pv⟩ := p.va
          obtain ⟨t1, t2, t3, t4, t5⟩ := eb_trs ko hi
          have T := p.tray i hi
          rw [ht] at T
          have T' : eb_I h (s_trays_0 + 1048576 * i) 2 = 1 := T
          refine T_X10_lists (d := 1298) _ _ _ _ ko ⟨fun z => absurd z nc, fun _ => ⟨v, ev, pv.1.1, fun _ => ⟨vi, _, by rw [ci]; exact t1, t2, fun z => ?_, fun _ => ⟨_, w, rfl, eb_fx.rfl ko, p, rfl, rfl⟩⟩, fun z => absurd ((X_has pv ok.va _).mpr hC) z⟩⟩
          rw [T'] at z
          exact absurd z (by decide)
        · rintro y w' ⟨rfl, rfl⟩
          refine eb_MS.of (fun h g ko eg kog p Q q => ?_)
          have T := p.tray i hi
          rw [ht] at T
          have T' : eb_I g s_m_rowSort i = -1 := T
          refine T_X11_lists (d := 1297) _ _ _ _ ko ?_
          rw [← eg]
          refine ⟨fun z => absurd mc z, fun _ => ⟨fun _ => ?_, fun z => absurd ((M_has p.va ok.va _).mpr hC) z⟩⟩
          refine T_X11_noTray (d := 1297) _ kog ⟨fun _ => ⟨vi, ?_⟩, fun z => absurd mc z⟩
          rw [ci, if_pos T']
          exact ⟨_, rfl, kog, fun z => absurd z (by decide), fun _ => q g (eb_fm.rfl kog) p⟩
      | some t =>
        obtain ⟨o1, o2⟩ := ok.tray i t hi ht
        obtain ⟨sz, hsz, esz⟩ : ∃ sz, sz ≤ 40 ∧ t.size = nI sz := ⟨t.size.toInt.toNat, by omega, eb_ofn o2.1⟩
        have szI : t.size.toInt = (sz : Int) := by rw [esz, nI_toInt (by omega)]
        have ns : ¬ t.sort = -1 := fun z => by
          rw [z] at o1
          have : (-1 : Int32).toInt = -1 := by decide
          omega
        by_cases hE : ec_okE v3 v4
        · obtain ⟨c, a, b, ⟨hc, rfl⟩, ⟨ha, rfl⟩, ⟨hb, rfl⟩⟩ := ec_nums hC hE
          refine ⟨fun y w' => (w' = w ∧ y = -5 ∧ ec_no w c a b) ∨ ∃ D st wy n, ec_fli w c a b D st wy ∧ n = (if sz < D then sz else D) ∧ y = nI n ∧ w' = w.setTray i (ec_ltd t n D wy), ?_, fun h ko p => ?_, ?_⟩
          · rintro y w' (⟨rfl, _⟩ | ⟨D, st, wy, n, _, _, _, rfl⟩)
            · exact ⟨ok, by omega⟩
            · exact ⟨ok.setTray i _ ⟨o1, o2⟩, by show w.fed ≤ _; omega⟩
          · obtain ⟨v, ev, pv⟩ := p.va
            obtain ⟨t1, t2, t3, t4, t5⟩ := eb_trs ko hi
            have T := p.tray i hi
            rw [ht] at T
            have T0 : eb_I h (s_trays_0 + 1048576 * i) 2 = 0 := T.1
            refine T_X10_lists (d := 1298) _ _ _ _ ko ⟨fun z => absurd z nc, fun _ => ⟨v, ev, pv.1.1, fun _ => ⟨vi, _, by rw [ci]; exact t1, t2, fun _ => ?_, fun z => absurd T0 z⟩, fun z => absurd ((X_has pv ok.va _).mpr hC) z⟩⟩
            refine C_ns (d := 1297) _ _ ko (fun _ => ⟨_, rfl, ko, fun _ => ?_, fun z => absurd rfl z⟩) (fun z => absurd hE z)
            refine C_co (d := 1291) p ko ok c a b hc ha hb (fun h2 ff fl no => ⟨_, rfl, ff.1, fun z => absurd rfl z, fun _ => ⟨_, w, rfl, ff.fx, ff.px p, Or.inl ⟨rfl, rfl, no⟩⟩⟩) (fun h2 D st wy ff fl tt e5 et e3 => ⟨_, rfl, ff.1, fun _ => ?_, fun z => absurd z (ec_m1 (by have := tt.1.1; omega))⟩)
            have dN := tt.1.1
            have p2 := ff.px p
            have T2 := p2.tray i hi
            rw [ht] at T2
            obtain ⟨u1, u2, u3, u4⟩ := T2
            have u3' : eb_I h2 (s_trays_0 + 1048576 * i) 3 = nI sz := u3.trans esz
            have en : (if eb_I h2 (s_trays_0 + 1048576 * i) 3 < nI D then eb_I h2 (s_trays_0 + 1048576 * i) 3 else nI D : Int32) = nI (if sz < D then sz else D) := by
              rw [u3']
              by_cases z : sz < D
              · rw [if_pos (nI_lt z (by omega)), if_pos z]
              · rw [if_neg (nI_nlt (by omega) (by omega)), if_neg z]
            rw [en]
            obtain ⟨n, hn⟩ : ∃ n, n = (if sz < D then sz else D) := ⟨_, rfl⟩
            rw [← hn]
            have nle : n ≤ sz ∧ n ≤ D := by
              by_cases z : sz < D
              · rw [if_pos z] at hn; omega
              · rw [if_neg z] at hn; omega
            have nV : ∀ x, x ≠ s_trays_0_values + 1048576 * i → (fun c => c ≠ s_trays_0_values + 1048576 * i) x := fun x hx => hx
            have vne : s_trays_0 + 1048576 * i ≠ s_trays_0_values + 1048576 * i := by unfold s_trays_0 s_trays_0_values; omega
            have fne : s_flights ≠ s_trays_0_values + 1048576 * i := by unfold s_flights s_trays_0_values; omega
            have tne : s_flights_trace ≠ s_trays_0_values + 1048576 * i := by unfold s_flights_trace s_trays_0_values; omega
            have key : ∀ (m j : Nat) (g : eb_H), j + m = n → eb_nz h2 g → eb_same (fun c => c ≠ s_trays_0_values + 1048576 * i) h2 g → (∀ q, eb_J g (s_trays_0_values + 1048576 * i) q = if q < j then (nI (wy (D - 1 - q))).toInt64 else eb_J h2 (s_trays_0_values + 1048576 * i) q) → eb_Sn 1299 m_X10_lists h 104 [(0, .ref s_EB), (5, .ref (s_trays_0 + 1048576 * i)), (7, .int (nI n)), (8, .int (nI j))] [] g (fun r h' => ∃ y w', r = some (.int y) ∧ eb_fx h h' ∧ PX w' h' ∧ ((w' = w ∧ y = -5 ∧ ec_no w c a b) ∨ ∃ D st wy n, ec_fli w c a b D st wy ∧ n = (if sz < D then sz else D) ∧ y = nI n ∧ w' = w.setTray i (ec_ltd t n D wy))) := by
              intro m
              induction m with
              | zero =>
                intro j g hj nz sm ej
                have hj : j = n := by omega
                subst hj
                have kg := nz.ko ff.1
                have st2 := sm _ (nV _ vne)
                refine b_X10_lists_104 (d := 1298) _ _ _ t2 kg ⟨fun _ => ⟨_, w.setTray i (ec_ltd t j D wy), rfl, ff.fx.trans (eb_fx.of ff.1 nz (sm.weak (fun c z e => ?_))), ?_, Or.inr ⟨D, st, wy, j, tt, hn, rfl, rfl⟩⟩, fun z => absurd (nI_le (Nat.le_refl _) (by omega)) z⟩
                · rw [e] at z
                  unfold ec_isM eb_isM eb_ix s_trays_0_values at z
                  omega
                · refine p2.setTray hi _ (sm.weak (fun c z => z.2)) ⟨?_, ?_, ?_, fun q hq hz => ?_⟩
                  · rw [st2.1]; exact u1
                  · rw [st2.1]; exact u2
                  · rw [st2.1]; exact u3
                  · rw [ej q]
                    show _ = if q < j then (nI (wy (D - 1 - q))).toInt64 else t.val q
                    by_cases z : q < j
                    · rw [if_pos z, if_pos z]
                    · rw [if_neg z, if_neg z]; exact u4 q hq hz
              | succ m ih =>
                intro j g hj nz sm ej
                have kg := nz.ko ff.1
                obtain ⟨x1, x2, x3, x4, x5⟩ := eb_trs kg hi
                have st2 := sm _ (nV _ vne)
                have f5 : eb_I g s_flights 5 = nI D := by rw [(sm _ (nV _ fne)).1]; exact e5
                have ft : eb_I g s_flights_trace (1023 - (D - 1 - j)) = nI (wy (D - 1 - j)) := by rw [(sm _ (nV _ tne)).1]; exact et _ (by omega)
                have w4 := (tt.2.2.1 (D - 1 - j) (by omega)).1
                have e1 : (1024 : Int32) - nI D = nI (1024 - D) := pk_sub (a := 1024) (by omega)
                refine b_X10_lists_104 (d := 1298) _ _ _ t2 kg ?_
                rw [f5, e1, nI_add, eb_cln (n := 1024 - D + j) (by omega), show 1024 - D + j = 1023 - (D - 1 - j) by omega, ft, nI_1]
                refine ⟨fun z => absurd z (nI_ge (by omega) (by omega)), fun _ => ⟨fun z => absurd z (nI_pos (by omega)), fun _ => ⟨fun z => absurd z (nI_ge (b := 1024) (by omega) (by omega)), fun _ => ⟨vp_in_nI (by omega) (by omega), ?_⟩⟩⟩⟩
                refine T_X8_setNumber (d := 1297) _ _ _ x2 kg ⟨fun z => absurd z (nI_pos (by omega)), fun _ => ⟨_, x3, x4, fun z => ?_, fun _ => ?_⟩⟩
                · exfalso
                  rw [x5] at z
                  exact nI_ge (a := j) (b := 40) (by omega) (by omega) z
                · refine C_cut _ _ x2 kg ⟨_, rfl, kg, by rw [x5]; exact vp_in_nI (by omega) (by omega), rfl, kg, ?_⟩
                  rw [ec_cut4 _ _ w4, eb_cln (n := j) (by omega)]
                  refine ih (j + 1) _ (by omega) (nz.trans ⟨rfl, rfl, rfl, rfl, rfl⟩) (sm.sJ (fun z => z rfl)) (fun q => ?_)
                  rw [eb_J_sJ]
                  by_cases e : q = j
                  · rw [if_pos e, if_pos (by omega), e]
                  · rw [if_neg e, ej q]
                    by_cases z : q < j
                    · rw [if_pos z, if_pos (by omega)]
                    · rw [if_neg z, if_neg (by omega)]
            exact key n 0 h2 (by omega) eb_nz.rfl eb_same.rfl (fun q => (if_neg (by omega)).symm)
          · intro y w' hR
            refine eb_MS.of (fun h g ko eg kog p Q q => ?_)
            have T := p.tray i hi
            rw [ht] at T
            have T1 : eb_I g s_m_rowSort i = t.sort := T.1
            refine T_X11_lists (d := 1297) _ _ _ _ ko ?_
            rw [← eg]
            refine ⟨fun z => absurd mc z, fun _ => ⟨fun _ => ?_, fun z => absurd ((M_has p.va ok.va _).mpr hC) z⟩⟩
            refine T_X11_noTray (d := 1297) _ kog ⟨fun _ => ⟨vi, ?_⟩, fun z => absurd mc z⟩
            rw [ci, if_neg (by rw [T1]; exact ns)]
            refine ⟨_, rfl, kog, fun _ => ?_, fun z => absurd rfl z⟩
            refine M_nc (d := 1296) p ok _ _ _ kog (fun _ _ => ⟨_, rfl, kog, fun _ => ?_, fun z => absurd rfl z⟩) (fun _ z => absurd hE z) (fun z => absurd hC z)
            refine M_far (d := 1294) p ok kog c a b (by omega) ha hb (fun g' f F th ef fd => ⟨_, rfl, F.ko kog, ?_⟩)
            have p2 := p.mf F
            have k2 := F.ko kog
            rcases hR with ⟨rfl, rfl, no⟩ | ⟨D, st, wy, n, tt, hn, rfl, rfl⟩
            · rw [fd.none (by omega) no]
              exact ⟨fun z => absurd ec_q268 z, fun _ => q g' (F.fm kog ec_mf_M) p2⟩
            · have dN := tt.1.1
              have fD := fd.tr tt (by omega) D (Nat.le_refl _)
              rw [tt.1.2.1] at fD
              have T2 := p2.tray i hi
              rw [ht] at T2
              obtain ⟨u1, u2, u3⟩ := T2
              have u2' : eb_I g' s_m_rowMany i = nI sz := u2.trans esz
              rw [fD, u2']
              have nle : n ≤ sz ∧ n ≤ D := by
                by_cases z : sz < D
                · rw [if_pos z] at hn; omega
                · rw [if_neg z] at hn; omega
              have key : ∀ (m j : Nat) (g2 : eb_H), j + m = n → eb_fm g g2 → eb_I g2 = eb_I g' → (∀ q, eb_J g2 s_m_numbers q = if 40 * i ≤ q ∧ q < 40 * i + j then (nI (wy (D - 1 - (q - 40 * i)))).toInt64 else eb_J g' s_m_numbers q) → eb_Sn 1299 m_X11_lists h 110 [(0, .ref s_MO), (1, .int (nI i)), (7, .int (nI n)), (8, .int (nI j))] [] g2 Q := by
                intro m
                induction m with
                | zero =>
                  intro j g2 hj fm eI eJ
                  have hj : j = n := by omega
                  subst hj
                  refine b_X11_lists_110 (d := 1297) _ _ _ fm.1 ⟨fun _ => ?_, fun z => absurd (nI_le (Nat.le_refl _) (by omega)) z⟩
                  refine q g2 fm (p2.setTray ok hi _ (fun c _ _ => by rw [eI]) (fun j _ => by rw [eI]; exact ⟨rfl, rfl⟩) (fun q hq => ?_) ⟨?_, ?_, fun q hq hz => ?_⟩)
                  · rw [eJ q, if_neg (by omega)]
                  · rw [eI]; exact u1
                  · rw [eI]; exact u2
                  · rw [eJ]
                    show _ = if q < j then (nI (wy (D - 1 - q))).toInt64 else t.val q
                    by_cases z : q < j
                    · rw [if_pos (by omega), if_pos z, show 40 * i + q - 40 * i = q by omega]
                    · rw [if_neg (by omega), if_neg z]; exact u3 q hq hz
                | succ m ih =>
                  intro j g2 hj fm eI eJ
                  have ps2 : PMS g2 31 w.now := by unfold PMS; rw [eI]; exact p2.now
                  have e40 : (40 : Int32) * nI i + nI j = nI (40 * i + j) := by
                    rw [show (40 : Int32) * nI i = nI (40 * i) from pk_mul 40 i, nI_add]
                  refine b_X11_lists_110 (d := 1297) _ _ _ fm.1 ⟨fun z => absurd z (nI_ge (by omega) (by omega)), fun _ => ?_⟩
                  refine M_sa (d := 1297) ps2 ok fm.1 (fun n' way hn' hw => by rw [eI]; exact th n' way hn' hw) (fun n' hn' => by rw [eI]; exact ef n' hn') fd tt j (by omega) ⟨_, rfl, fm.1, ?_, ?_⟩
                  · rw [e40]; exact vp_in_nI (by omega) (by omega)
                  · rw [if_pos (by omega), e40, eb_cln (n := 40 * i + j) (by omega), nI_1]
                    refine ih (j + 1) _ (by omega) (fm.sJ (by unfold eb_isM eb_ix s_m_numbers; omega)) eI (fun q => ?_)
                    rw [eb_J_sJ]
                    by_cases e : q = 40 * i + j
                    · rw [if_pos e, if_pos (by omega), e, show 40 * i + j - 40 * i = j by omega]
                    · rw [if_neg e, eJ q]
                      by_cases z : 40 * i ≤ q ∧ q < 40 * i + j
                      · rw [if_pos z, if_pos (by omega)]
                      · rw [if_neg z, if_neg (by omega)]
              have fin := key n 0 g' (by omega) (F.fm kog ec_mf_M) rfl (fun q => (if_neg (by omega)).symm)
              refine ⟨fun _ => ⟨vi, fun z => ⟨vi, ?_⟩, fun z => ?_⟩, fun z => ?_⟩
              · rw [nI_leI (by omega) (by omega)] at z
                by_cases y : sz < D
                · rw [if_pos y] at hn
                  rw [hn] at fin
                  exact fin
                · have e : sz = D := by omega
                  rw [if_neg y] at hn
                  rw [hn] at fin
                  rw [e]
                  exact fin
              · rw [nI_leI (by omega) (by omega)] at z
                rw [if_neg (by omega)] at hn
                rw [hn] at fin
                exact fin
              · exfalso
                rw [← ec_q268, nI_eq (by omega) (by omega)] at z
                omega
        · refine ⟨fun y w' => w' = w ∧ y = -3, same2 _, fun h ko p => ?_, ?_⟩
          · obtain ⟨v, ev, pv⟩ := p.va
            obtain ⟨t1, t2, t3, t4, t5⟩ := eb_trs ko hi
            have T := p.tray i hi
            rw [ht] at T
            have T0 : eb_I h (s_trays_0 + 1048576 * i) 2 = 0 := T.1
            refine T_X10_lists (d := 1298) _ _ _ _ ko ⟨fun z => absurd z nc, fun _ => ⟨v, ev, pv.1.1, fun _ => ⟨vi, _, by rw [ci]; exact t1, t2, fun _ => ?_, fun z => absurd T0 z⟩, fun z => absurd ((X_has pv ok.va _).mpr hC) z⟩⟩
            exact C_ns (d := 1297) _ _ ko (fun z => absurd z hE) (fun _ => ⟨_, rfl, ko, fun z => absurd z (by decide), fun _ => ⟨_, w, rfl, eb_fx.rfl ko, p, rfl, rfl⟩⟩)
          · rintro y w' ⟨rfl, rfl⟩
            refine eb_MS.of (fun h g ko eg kog p Q q => ?_)
            have T := p.tray i hi
            rw [ht] at T
            have T1 : eb_I g s_m_rowSort i = t.sort := T.1
            refine T_X11_lists (d := 1297) _ _ _ _ ko ?_
            rw [← eg]
            refine ⟨fun z => absurd mc z, fun _ => ⟨fun _ => ?_, fun z => absurd ((M_has p.va ok.va _).mpr hC) z⟩⟩
            refine T_X11_noTray (d := 1297) _ kog ⟨fun _ => ⟨vi, ?_⟩, fun z => absurd mc z⟩
            rw [ci, if_neg (by rw [T1]; exact ns)]
            refine ⟨_, rfl, kog, fun _ => ?_, fun z => absurd rfl z⟩
            exact M_nc (d := 1296) p ok _ _ _ kog (fun _ z => absurd z hE) (fun _ _ => ⟨_, rfl, kog, fun z => absurd z (by decide), fun _ => q g (eb_fm.rfl kog) p⟩) (fun z => absurd hC z)
    · refine ⟨fun y w' => w' = w ∧ y = -2, same2 _, fun h ko p => ?_, ?_⟩
      · obtain ⟨v, ev, pv⟩ := p.va
        exact T_X10_lists (d := 1298) _ _ _ _ ko ⟨fun z => absurd z nc, fun _ => ⟨v, ev, pv.1.1, fun z => absurd ((X_has pv ok.va _).mp z) hC, fun _ => ⟨_, w, rfl, eb_fx.rfl ko, p, rfl, rfl⟩⟩⟩
      · rintro y w' ⟨rfl, rfl⟩
        refine eb_MS.of (fun h g ko eg kog p Q q => ?_)
        refine T_X11_lists (d := 1297) _ _ _ _ ko ?_
        rw [← eg]
        exact ⟨fun z => absurd mc z, fun _ => ⟨fun z => absurd ((M_has p.va ok.va _).mp z) hC, fun _ => q g (eb_fm.rfl kog) p⟩⟩
  · refine ⟨fun y w' => w' = w ∧ y = -2, same2 _, fun h ko p => ?_, ?_⟩
    · refine T_X10_lists (d := 1298) _ _ _ _ ko ⟨fun _ => ⟨_, w, rfl, eb_fx.rfl ko, p, rfl, rfl⟩, fun z => ?_⟩
      exfalso
      rw [eb_i32, eb_i32, eb_z32, eb_c4] at z
      omega
    · rintro y w' ⟨rfl, rfl⟩
      refine eb_MS.of (fun h g ko eg kog p Q q => ?_)
      refine T_X11_lists (d := 1297) _ _ _ _ ko ?_
      rw [← eg]
      refine ⟨fun _ => q g (eb_fm.rfl kog) p, fun z => ?_⟩
      exfalso
      rw [eb_l64a, eb_l64b, eb_z64, eb_d3] at z
      omega
end EBLISTS
