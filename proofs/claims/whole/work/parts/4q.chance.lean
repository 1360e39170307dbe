section EBCHANCE
variable {L : Nat} {xs : Nat → Int32}
theorem ed_wys_lt {w : eb_Wo} {st : Bool} {c a b n : Nat} (hn : n ≤ 8) : ed_wys w st c a b n < 2 ^ 31 := by
  have s2 := ed_Mn_le (nx := ed_nxs w.va w.now w.now.D st) (B := ed_gi c a b) (c := 1) (fun t => ed_gi_le c a b t) n (64 * w.now.b + w.now.e)
  have s4 : 4 ^ n ≤ 4 ^ 8 := Nat.pow_le_pow_right (by decide) hn
  rw [Nat.mul_one] at s2
  exact Nat.lt_of_le_of_lt (Nat.le_trans s2 s4) (by decide)
/-- 36: chance -/
theorem c_chance (k : Nat) (h : eb_H) (v1 v2 v3 v4 : Int32) (inv : eb_Inv L xs k h) : eb_Pr 130 273 [.int v1, .int v2, .int v3, .int v4] (eb_Inv L xs (k + 1)) h := by
  refine eb_pr inv (fun w ok => ?_)
  have r10 := ok.va.RW.2.2.2.2.2.2.2.2.2.1
  have c1 : (1 : Int64).toInt = 1 := by decide
  have d1 : (1 : Int32).toInt = 1 := by decide
  have c8 : (8 : Int64).toInt = 8 := by decide
  have d8 : (8 : Int32).toInt = 8 := by decide
  have c63 : (63 : Int64).toInt = 63 := by decide
  have d64 : (64 : Int32).toInt = 64 := by decide
  by_cases hC : 0 ≤ v1.toInt ∧ v1.toInt < (w.va.R * w.va.W : Nat)
  · by_cases hW : 0 ≤ v4.toInt ∧ v4.toInt < (2 : Nat)
    · by_cases hE : 0 ≤ v2.toInt ∧ v2.toInt < (64 : Nat)
      · by_cases hN : 0 ≤ v3.toInt ∧ v3.toInt < (9 : Nat)
        · obtain ⟨c, hc, rfl⟩ := ec_in hC
          obtain ⟨a, ha, rfl⟩ := ec_in hE
          obtain ⟨n, hn, rfl⟩ := ec_in hN
          have wl := ed_wys_lt (w := w) (st := true) (c := c) (a := a) (b := 0) (n := n) (by omega)
          refine ⟨ed_pt (ed_wys w true c a 0 n) (2 * n) v4, w, ok, by omega, eb_XS.of (fun h ko p Q q => ?_), eb_MS.of (fun h g ko eg kog p Q q => ?_)⟩
          · obtain ⟨v, ev, pv⟩ := p.va
            obtain ⟨am, h1, h2⟩ := ed_fyc ok 1 (Or.inr rfl) true n (by omega)
            refine T_X10_chance (d := 1298) _ _ _ _ ko ⟨v, ev, pv.1.1, fun z => absurd ((X_has pv ok.va _).mpr hC) z, fun _ => ⟨fun z => ?_, fun _ => ⟨fun _ => ⟨fun z => ?_, fun _ => ⟨fun z => absurd z (nI_pos (by omega)), fun _ => ⟨fun _ => ?_, fun z => absurd (nI_le (b := 8) (by omega) (by omega)) z⟩⟩⟩, fun z => ?_⟩⟩⟩
            · exfalso; rw [eb_i32, eb_z32] at z; omega
            · exfalso; rw [eb_i32, eb_i32, eb_z32, d64] at z; omega
            · refine C_fa (d := 1292) p ko ok n (by omega) 1 true (by decide) v ev (fun h' r ff hr hJ => ⟨rfl, ff.1, ?_⟩)
              refine C_ao (d := 1296) hr hJ h1 c a 0 (by omega) ha (by omega) ff.1 ⟨_, rfl, ff.1, ?_⟩
              rw [h2]
              exact C_pa v4 ff.1 _ n wl (by omega) ⟨_, rfl, ff.1, q h' ff.fx (ff.px p)⟩
            · exfalso; rw [eb_i32e, d1] at z; omega
          · refine T_X11_chance (d := 1297) _ _ _ _ ko ?_
            rw [← eg]
            refine ⟨fun z => absurd ((M_has p.va ok.va _).mpr hC) z, fun _ => ⟨fun _ => ⟨fun z => ?_, fun _ => ⟨fun _ => ?_, fun z => ?_⟩⟩, fun z => ?_⟩⟩
            · exfalso; rw [eb_l64a, eb_l64b, eb_z64, c63] at z; omega
            · refine M_ly (d := 1293) p ok kog n (by omega) (fun g2 F my => ⟨rfl, F.ko kog, ?_⟩)
              obtain ⟨_, _, am, h1, _, h3⟩ := my
              have key : ∀ (m j : Nat), j + m = 64 * (w.va.R * w.va.W) → eb_Sn 1299 m_X11_chance h 61 [(0, .ref s_MO), (1, .int (nI c)), (2, .int (nI a)), (3, .int (nI n)), (4, .int v4), (5, .long (lN (ec_sum (fun q => am q * ed_gi c a 0 q) j))), (7, .int (nI j))] [] g2 Q := by
                intro m
                induction m with
                | zero =>
                  intro j hj
                  have hj : j = 64 * (w.va.R * w.va.W) := by omega
                  subst hj
                  refine b_X11_chance_61 (d := 1297) _ _ _ _ _ _ (F.ko kog) ?_
                  rw [ed_cells (F.pm p) ok]
                  refine ⟨fun _ => ?_, fun z => absurd (nI_le (Nat.le_refl _) (by omega)) z⟩
                  rw [h3]
                  exact M_pt (d := 1258) v4 (F.ko kog) _ n wl (by omega) ⟨_, rfl, F.ko kog, q g2 (F.fm kog) (F.pm p)⟩
                | succ m ih =>
                  intro j hj
                  have nx := ih (j + 1) (by omega)
                  rw [ed_ss] at nx
                  have gx : ((nI j / 64 = nI c) ∧ ((nI j &&& nI a = nI a) ∧ (nI j &&& 0 = 0))) ↔ ec_goal c a 0 j := ec_glM (b := 0) (by omega) (by omega) ha (by omega)
                  refine b_X11_chance_61 (d := 1297) _ _ _ _ _ _ (F.ko kog) ?_
                  rw [ed_cells (F.pm p) ok, gx, eb_cln (n := j) (by omega), nI_1]
                  refine ⟨fun z => absurd z (nI_ge (by omega) (by omega)), fun _ => ⟨fun z => ?_, fun z => ⟨vp_in_nI (by omega) (by omega), ?_⟩⟩⟩
                  · rw [ed_gi_0 z, Nat.mul_zero, Nat.add_zero] at nx
                    rw [ed_az]
                    exact nx
                  · rw [ed_gi_1 z, Nat.mul_one] at nx
                    rw [h1 j (by omega), lN_add]
                    exact nx
              exact key _ 0 (Nat.zero_add _)
            · exfalso; apply z; rw [eb_l64a, eb_l64b, eb_z64, c8]; omega
            · exfalso; apply z; rw [eb_l64a, eb_l64b, eb_z64, c1]; omega
        · refine ⟨-3, w, ok, by omega, eb_XS.of (fun h ko p Q q => ?_), eb_MS.of (fun h g ko eg kog p Q q => ?_)⟩
          · obtain ⟨v, ev, pv⟩ := p.va
            refine T_X10_chance (d := 1298) _ _ _ _ ko ⟨v, ev, pv.1.1, fun z => absurd ((X_has pv ok.va _).mpr hC) z, fun _ => ⟨fun z => ?_, fun _ => ⟨fun _ => ⟨fun _ => q h (eb_fx.rfl ko) p, fun _ => ⟨fun _ => q h (eb_fx.rfl ko) p, fun z => ⟨fun z2 => ?_, fun _ => q h (eb_fx.rfl ko) p⟩⟩⟩, fun z => ?_⟩⟩⟩
            · exfalso; rw [eb_i32, eb_z32] at z; omega
            · exfalso; rw [eb_i32, eb_z32] at z; rw [eb_i32e, d8] at z2; omega
            · exfalso; rw [eb_i32e, d1] at z; omega
          · refine T_X11_chance (d := 1297) _ _ _ _ ko ?_
            rw [← eg]
            refine ⟨fun z => absurd ((M_has p.va ok.va _).mpr hC) z, fun _ => ⟨fun _ => ⟨fun _ => q g (eb_fm.rfl kog) p, fun _ => ⟨fun z => ?_, fun _ => q g (eb_fm.rfl kog) p⟩⟩, fun z => ?_⟩⟩
            · exfalso; rw [eb_l64a, eb_l64b, eb_z64, c8] at z; omega
            · exfalso; apply z; rw [eb_l64a, eb_l64b, eb_z64, c1]; omega
      · refine ⟨-3, w, ok, by omega, eb_XS.of (fun h ko p Q q => ?_), eb_MS.of (fun h g ko eg kog p Q q => ?_)⟩
        · obtain ⟨v, ev, pv⟩ := p.va
          refine T_X10_chance (d := 1298) _ _ _ _ ko ⟨v, ev, pv.1.1, fun z => absurd ((X_has pv ok.va _).mpr hC) z, fun _ => ⟨fun z => ?_, fun _ => ⟨fun _ => ⟨fun _ => q h (eb_fx.rfl ko) p, fun z => ?_⟩, fun z => ?_⟩⟩⟩
          · exfalso; rw [eb_i32, eb_z32] at z; omega
          · exfalso; apply z; rw [eb_i32, eb_i32, eb_z32, d64]; omega
          · exfalso; rw [eb_i32e, d1] at z; omega
        · refine T_X11_chance (d := 1297) _ _ _ _ ko ?_
          rw [← eg]
          refine ⟨fun z => absurd ((M_has p.va ok.va _).mpr hC) z, fun _ => ⟨fun _ => ⟨fun _ => q g (eb_fm.rfl kog) p, fun z => ?_⟩, fun z => ?_⟩⟩
          · exfalso; rw [eb_l64a, eb_l64b, eb_z64, c63] at z; omega
          · exfalso; apply z; rw [eb_l64a, eb_l64b, eb_z64, c1]; omega
    · refine ⟨-2, w, ok, by omega, eb_XS.of (fun h ko p Q q => ?_), eb_MS.of (fun h g ko eg kog p Q q => ?_)⟩
      · obtain ⟨v, ev, pv⟩ := p.va
        refine T_X10_chance (d := 1298) _ _ _ _ ko ⟨v, ev, pv.1.1, fun z => absurd ((X_has pv ok.va _).mpr hC) z, fun _ => ⟨fun _ => q h (eb_fx.rfl ko) p, fun z => ⟨fun z2 => ?_, fun _ => q h (eb_fx.rfl ko) p⟩⟩⟩
        exfalso
        rw [eb_i32, eb_z32] at z
        rw [eb_i32e, d1] at z2
        omega
      · refine T_X11_chance (d := 1297) _ _ _ _ ko ?_
        rw [← eg]
        refine ⟨fun z => absurd ((M_has p.va ok.va _).mpr hC) z, fun _ => ⟨fun z => ?_, fun _ => q g (eb_fm.rfl kog) p⟩⟩
        exfalso; rw [eb_l64a, eb_l64b, eb_z64, c1] at z; omega
  · refine ⟨-2, w, ok, by omega, eb_XS.of (fun h ko p Q q => ?_), eb_MS.of (fun h g ko eg kog p Q q => ?_)⟩
    · obtain ⟨v, ev, pv⟩ := p.va
      exact T_X10_chance (d := 1298) _ _ _ _ ko ⟨v, ev, pv.1.1, fun _ => q h (eb_fx.rfl ko) p, fun z => absurd ((X_has pv ok.va _).mp z) hC⟩
    · refine T_X11_chance (d := 1297) _ _ _ _ ko ?_
      rw [← eg]
      exact ⟨fun _ => q g (eb_fm.rfl kog) p, fun z => absurd ((M_has p.va ok.va _).mp z) hC⟩
/-! how many echoes on the mean -/
def ed_bw (n : Nat) : Nat := ec_bc (n % 64)
def ed_mn (w : eb_Wo) (n : Nat) : Nat := ed_Mn (ed_nxs w.va w.now w.now.D true) ed_bw n (64 * w.now.b + w.now.e)
theorem ed_mn_lt {w : eb_Wo} {n : Nat} (hn : n ≤ 8) : ed_mn w n < 2 ^ 31 := by
  have s2 := ed_Mn_le (nx := ed_nxs w.va w.now w.now.D true) (B := ed_bw) (c := 6) (fun t => ec_bc_le (t % 64)) n (64 * w.now.b + w.now.e)
  have s4 : 4 ^ n ≤ 4 ^ 8 := Nat.pow_le_pow_right (by decide) hn
  exact Nat.lt_of_le_of_lt (Nat.le_trans s2 (Nat.mul_le_mul_right 6 s4)) (by decide)
theorem ed_bw_sd {q : Nat} (h : q < 1024) : ed_bw (ed_sd q) = ec_bc (q / 16) := by
  unfold ed_bw ed_sd
  rw [Nat.mul_add_mod, Nat.mod_eq_of_lt (by omega)]
theorem C_ea {d : Nat} {h : eb_H} {Q : Option Value → eb_H → Prop} {r : Nat} {A : Nat → Int64} {a : Nat → Nat} (hr : eb_R h s_flights 10 = some r ∧ eb_kd r = 14 ∧ eb_ln r = 1024) (hJ : ∀ q, q < 1024 → eb_J h r q = A q) (hA : ∀ q, q < 1024 → A q = lN (a q) ∧ a q < 2 ^ 31) (ko : eb_KO h) (q : Q (some (.long (lN (ec_sum (fun q => a q * ed_bw (ed_sd q)) 1024)))) h) : eb_Ct (d + 1) 23 [.ref s_flights] h Q := by
  have key : ∀ (m k : Nat), k + m = 1024 → eb_Sn (d + 1) m_X1_echoesInAll h 4 [(0, .ref s_flights), (1, .long (lN (ec_sum (fun q => a q * ed_bw (ed_sd q)) k))), (3, .int (nI k))] [] h Q := by
    intro m
    induction m with
    | zero =>
      intro k hk
      have hk : k = 1024 := by omega
      subst hk
      exact b_X1_echoesInAll_4 (d := d) _ _ ko ⟨fun _ => q, fun z => absurd (by decide) z⟩
    | succ m ih =>
      intro k hk
      have nx := ih (k + 1) (by omega)
      rw [ed_ss, ed_bw_sd (show k < 1024 by omega)] at nx
      have e4 := (ec_c4 (c := k % 16) (e := k / 16) (by omega) (by omega)).2
      rw [show 16 * (k / 16) + k % 16 = k by omega] at e4
      have bl := ec_bc_le (k / 16)
      refine b_X1_echoesInAll_4 (d := d) _ _ ko ⟨fun z => absurd z (nI_ge (a := k) (b := 1024) (by omega) (by omega)), fun _ => ⟨r, hr.1, hr.2.1, by rw [hr.2.2]; exact vp_in_nI (by omega) (by omega), ?_⟩⟩
      rw [e4, eb_cln (n := k) (by omega), hJ k (by omega), (hA k (by omega)).1, nI_1]
      refine ec_b2 (k / 16) (by omega) ko ⟨_, rfl, ko, ?_⟩
      rw [nI_l (by omega), lN_mul, lN_add]
      exact nx
  exact T_X1_echoesInAll (d := d) ko (key 1024 0 (by omega))
/-- 37: mean -/
theorem c_mean (k : Nat) (h : eb_H) (v1 v2 : Int32) (inv : eb_Inv L xs k h) : eb_Pr 131 274 [.int v1, .int v2] (eb_Inv L xs (k + 1)) h := by
  refine eb_pr inv (fun w ok => ?_)
  have r10 := ok.va.RW.2.2.2.2.2.2.2.2.2.1
  have c1 : (1 : Int64).toInt = 1 := by decide
  have d1 : (1 : Int32).toInt = 1 := by decide
  have c8 : (8 : Int64).toInt = 8 := by decide
  have d8 : (8 : Int32).toInt = 8 := by decide
  by_cases hW : 0 ≤ v2.toInt ∧ v2.toInt < (2 : Nat)
  · by_cases hN : 0 ≤ v1.toInt ∧ v1.toInt < (9 : Nat)
    · obtain ⟨n, hn, rfl⟩ := ec_in hN
      have wl := ed_mn_lt (w := w) (n := n) (by omega)
      refine ⟨ed_pt (ed_mn w n) (2 * n) v2, w, ok, by omega, eb_XS.of (fun h ko p Q q => ?_), eb_MS.of (fun h g ko eg kog p Q q => ?_)⟩
      · obtain ⟨v, ev, pv⟩ := p.va
        obtain ⟨am, h1, h2⟩ := ed_fyc ok 1 (Or.inr rfl) true n (by omega)
        refine T_X10_mean (d := 1298) _ _ ko ⟨fun z => ?_, fun _ => ⟨fun _ => ⟨fun z => absurd z (nI_pos (by omega)), fun _ => ⟨fun _ => ⟨v, ev, pv.1.1, ?_⟩, fun z => absurd (nI_le (b := 8) (by omega) (by omega)) z⟩⟩, fun z => ?_⟩⟩
        · exfalso; rw [eb_i32, eb_z32] at z; omega
        · refine C_fa (d := 1292) p ko ok n (by omega) 1 true (by decide) v ev (fun h' r ff hr hJ => ⟨rfl, ff.1, ?_⟩)
          refine C_ea (d := 1297) hr hJ h1 ff.1 ⟨_, rfl, ff.1, ?_⟩
          rw [h2]
          exact C_pa v2 ff.1 _ n wl (by omega) ⟨_, rfl, ff.1, q h' ff.fx (ff.px p)⟩
        · exfalso; rw [eb_i32e, d1] at z; omega
      · refine T_X11_mean (d := 1297) _ _ ko ?_
        rw [← eg]
        refine ⟨fun _ => ⟨fun _ => ?_, fun z => ?_⟩, fun z => ?_⟩
        · refine M_ly (d := 1293) p ok kog n (by omega) (fun g2 F my => ⟨rfl, F.ko kog, ?_⟩)
          obtain ⟨_, _, am, h1, _, h3⟩ := my
          have key : ∀ (m j : Nat), j + m = 64 * (w.va.R * w.va.W) → eb_Sn 1299 m_X11_mean h 43 [(0, .ref s_MO), (1, .int (nI n)), (2, .int v2), (3, .long (lN (ec_sum (fun q => am q * ed_bw q) j))), (5, .int (nI j))] [] g2 Q := by
            intro m
            induction m with
            | zero =>
              intro j hj
              have hj : j = 64 * (w.va.R * w.va.W) := by omega
              subst hj
              refine b_X11_mean_43 (d := 1297) _ _ _ _ (F.ko kog) ?_
              rw [ed_cells (F.pm p) ok]
              refine ⟨fun _ => ?_, fun z => absurd (nI_le (Nat.le_refl _) (by omega)) z⟩
              rw [h3]
              exact M_pt (d := 1258) v2 (F.ko kog) _ n wl (by omega) ⟨_, rfl, F.ko kog, q g2 (F.fm kog) (F.pm p)⟩
            | succ m ih =>
              intro j hj
              have nx := ih (j + 1) (by omega)
              rw [ed_ss] at nx
              have bl := ec_bc_le (j % 64)
              refine b_X11_mean_43 (d := 1297) _ _ _ _ (F.ko kog) ?_
              rw [ed_cells (F.pm p) ok, eb_cln (n := j) (by omega), show nI j - nI j / 64 * 64 = nI (j % 64) from pk_rem (d := 64) (by omega) (by omega) (by omega), h1 j (by omega), nI_1]
              refine ⟨fun z => absurd z (nI_ge (by omega) (by omega)), fun _ => ⟨vp_in_nI (by omega) (by omega), ?_⟩⟩
              refine M_bits (j % 64) (by omega) (F.ko kog) ⟨_, rfl, F.ko kog, ?_⟩
              rw [nI_l (by omega), lN_mul, lN_add]
              exact nx
          exact key _ 0 (Nat.zero_add _)
        · exfalso; apply z; rw [eb_l64a, eb_l64b, eb_z64, c8]; omega
        · exfalso; apply z; rw [eb_l64a, eb_l64b, eb_z64, c1]; omega
    · refine ⟨-3, w, ok, by omega, eb_XS.of (fun h ko p Q q => ?_), eb_MS.of (fun h g ko eg kog p Q q => ?_)⟩
      · refine T_X10_mean (d := 1298) _ _ ko ⟨fun z => ?_, fun _ => ⟨fun _ => ⟨fun _ => q h (eb_fx.rfl ko) p, fun z => ⟨fun z2 => ?_, fun _ => q h (eb_fx.rfl ko) p⟩⟩, fun z => ?_⟩⟩
        · exfalso; rw [eb_i32, eb_z32] at z; omega
        · exfalso; rw [eb_i32, eb_z32] at z; rw [eb_i32e, d8] at z2; omega
        · exfalso; rw [eb_i32e, d1] at z; omega
      · refine T_X11_mean (d := 1297) _ _ ko ?_
        rw [← eg]
        refine ⟨fun _ => ⟨fun z => ?_, fun _ => q g (eb_fm.rfl kog) p⟩, fun z => ?_⟩
        · exfalso; rw [eb_l64a, eb_l64b, eb_z64, c8] at z; omega
        · exfalso; apply z; rw [eb_l64a, eb_l64b, eb_z64, c1]; omega
  · refine ⟨-2, w, ok, by omega, eb_XS.of (fun h ko p Q q => ?_), eb_MS.of (fun h g ko eg kog p Q q => ?_)⟩
    · refine T_X10_mean (d := 1298) _ _ ko ⟨fun _ => q h (eb_fx.rfl ko) p, fun z => ⟨fun z2 => ?_, fun _ => q h (eb_fx.rfl ko) p⟩⟩
      exfalso
      rw [eb_i32, eb_z32] at z
      rw [eb_i32e, d1] at z2
      omega
    · refine T_X11_mean (d := 1297) _ _ ko ?_
      rw [← eg]
      refine ⟨fun z => ?_, fun _ => q g (eb_fm.rfl kog) p⟩
      exfalso; rw [eb_l64a, eb_l64b, eb_z64, c1] at z; omega
/-! the likeliest cell -/
def ed_lk (T : Nat → Nat) : Nat → Nat → Int32 → Int64 → Int32
  | 0, _, b, _ => b
  | m + 1, c, b, g => if lN (T c) ≤ g then ed_lk T m (c + 1) b g else ed_lk T m (c + 1) (nI c) (lN (T c))
theorem ed_lk_s (T : Nat → Nat) (m c : Nat) (b : Int32) (g : Int64) : ed_lk T (m + 1) c b g = if lN (T c) ≤ g then ed_lk T m (c + 1) b g else ed_lk T m (c + 1) (nI c) (lN (T c)) := rfl
theorem ed_lk_z {T : Nat → Nat} (hT : ∀ c, T c < 2 ^ 31) : ∀ (m1 m2 c : Nat) (b : Int32) (x : Nat), x < 2 ^ 31 → (∀ c', c + m1 ≤ c' → T c' = 0) → ed_lk T (m1 + m2) c b (lN x) = ed_lk T m1 c b (lN x)
  | 0, 0, c, b, x, _, _ => rfl
  | 0, m2 + 1, c, b, x, hx, h => by
    rw [show 0 + (m2 + 1) = (0 + m2) + 1 by omega, ed_lk_s, if_pos (by rw [lN_le (hT c) hx, h c (by omega)]; omega)]
    exact ed_lk_z hT 0 m2 (c + 1) b x hx (fun c' hc' => h c' (by omega))
  | m1 + 1, m2, c, b, x, hx, h => by
    rw [show m1 + 1 + m2 = (m1 + m2) + 1 by omega, ed_lk_s, ed_lk_s]
    by_cases z : lN (T c) ≤ lN x
    · rw [if_pos z, if_pos z]
      exact ed_lk_z hT m1 m2 (c + 1) b x hx (fun c' hc' => h c' (by omega))
    · rw [if_neg z, if_neg z]
      exact ed_lk_z hT m1 m2 (c + 1) _ (T c) (hT c) (fun c' hc' => h c' (by omega))
theorem ed_goal0 {c n : Nat} : ec_goal c 0 0 n ↔ n / 64 = c := by
  unfold ec_goal
  rw [Nat.and_zero]
  exact ⟨fun z => z.1, fun z => ⟨z, rfl, rfl⟩⟩
theorem ed_blk (a : Nat → Nat) (c : Nat) : ∀ n, ec_sum (fun q => a q * ed_gi c 0 0 q) n = ec_sum (fun e => a (64 * c + e)) (min (n - 64 * c) 64)
  | 0 => by
    rw [show min (0 - 64 * c) 64 = 0 by omega]
    rfl
  | n + 1 => by
    rw [ed_ss, ed_blk a c n]
    by_cases z : n / 64 = c
    · rw [ed_gi_1 (ed_goal0.mpr z), Nat.mul_one, show min (n + 1 - 64 * c) 64 = (n - 64 * c) + 1 by omega, ed_ss, show min (n - 64 * c) 64 = n - 64 * c by omega, show 64 * c + (n - 64 * c) = n by omega]
    · rw [ed_gi_0 (fun u => z (ed_goal0.mp u)), Nat.mul_zero, Nat.add_zero, show min (n + 1 - 64 * c) 64 = min (n - 64 * c) 64 by omega]
theorem ed_Mn_0 {V : eb_Va} {s : eb_St} {D : Nat} {st : Bool} (ok : eb_okV V) (os : eb_okS V s) {B : Nat → Nat} (hB : ∀ q, q < 64 * (V.R * V.W) → B q = 0) : ∀ n k, k < 64 * (V.R * V.W) → ed_Mn (ed_nxs V s D st) B n k = 0 := by
  intro n
  induction n with
  | zero => exact hB
  | succ n ih =>
    intro k hk
    have key : ∀ y, ed_M (ed_nxs V s D st) (ed_Mn (ed_nxs V s D st) B n) k y = 0 := by
      intro y
      induction y with
      | zero => rfl
      | succ y ihy =>
        rw [ed_Ms, ihy]
        cases hn : ed_nxs V s D st k y with
        | none => rfl
        | some t =>
          show 0 + ed_Mn (ed_nxs V s D st) B n t = 0
          rw [ih t (ed_nxs_lt ok os hk hn)]
    exact key 4
theorem ed_lm (n : Nat) (h : n < 2 ^ 31) : ¬ lN n ≤ -1 := fun z => by
  rw [Int64.le_iff_toInt_le, lN_toInt h] at z
  have : (-1 : Int64).toInt = -1 := by decide
  omega
/-- 38: likeliest -/
theorem c_likeliest (k : Nat) (h : eb_H) (v1 : Int32) (inv : eb_Inv L xs k h) : eb_Pr 132 275 [.int v1] (eb_Inv L xs (k + 1)) h := by
  refine eb_pr inv (fun w ok => ?_)
  obtain ⟨r1, r2, r3, r4, r5, r6, r7, r8, r9, r10, _⟩ := ok.va.RW
  obtain ⟨n1, n2, n3, n4, n5, n6, n7⟩ := ok.now.N ok.va
  have c8 : (8 : Int64).toInt = 8 := by decide
  have d8 : (8 : Int32).toInt = 8 := by decide
  by_cases hN : 0 ≤ v1.toInt ∧ v1.toInt < (9 : Nat)
  · obtain ⟨n, hn, rfl⟩ := ec_in hN
    have hT : ∀ c, ed_wys w true c 0 0 n < 2 ^ 31 := fun c => ed_wys_lt (by omega)
    obtain ⟨m0, em0⟩ : ∃ m0, w.va.R * w.va.W = m0 + 1 := ⟨w.va.R * w.va.W - 1, by omega⟩
    refine ⟨ed_lk (fun c => ed_wys w true c 0 0 n) m0 1 (nI 0) (lN (ed_wys w true 0 0 0 n)), w, ok, by omega, eb_XS.of (fun h ko p Q q => ?_), eb_MS.of (fun h g ko eg kog p Q q => ?_)⟩
    · obtain ⟨v, ev, pv⟩ := p.va
      obtain ⟨am, h1, h2⟩ := ed_fyc ok 1 (Or.inr rfl) true n (by omega)
      refine T_X10_likeliest (d := 1298) _ ko ⟨fun z => absurd z (nI_pos (by omega)), fun _ => ⟨fun _ => ⟨v, ev, pv.1.1, ?_⟩, fun z => absurd (nI_le (b := 8) (by omega) (by omega)) z⟩⟩
      refine C_fa (d := 1292) p ko ok n (by omega) 1 true (by decide) v ev (fun h' r ff hr hJ => ⟨rfl, ff.1, ?_⟩)
      have key : ∀ (m c : Nat) (b : Int32) (g : Int64), c + m = 16 → Q (some (.int (ed_lk (fun c => ed_wys w true c 0 0 n) m c b g))) h' → eb_Sn 1299 m_X10_likeliest h 39 [(0, .ref s_EB), (2, .int b), (3, .long g), (5, .int (nI c))] [] h' Q := by
        intro m
        induction m with
        | zero =>
          intro c b g hc u
          exact b_X10_likeliest_39 (d := 1298) _ _ _ ff.1 ⟨fun _ => u, fun z => absurd (nI_le (a := 16) (by omega) (by omega)) z⟩
        | succ m ih =>
          intro c b g hc u
          rw [ed_lk_s] at u
          refine b_X10_likeliest_39 (d := 1298) _ _ _ ff.1 ⟨fun z => absurd z (nI_ge (a := c) (b := 16) (by omega) (by omega)), fun _ => ?_⟩
          refine C_ao (d := 1296) hr hJ h1 c 0 0 (by omega) (by omega) (by omega) ff.1 ⟨_, rfl, ff.1, ?_⟩
          rw [h2, nI_1]
          refine ⟨fun z => ih (c + 1) b g (by omega) ?_, fun z => ih (c + 1) _ _ (by omega) ?_⟩
          · have z : lN (ed_wys w true c 0 0 n) ≤ g := z
            rw [if_pos z] at u
            exact u
          · have z : ¬ lN (ed_wys w true c 0 0 n) ≤ g := z
            rw [if_neg z] at u
            exact u
      refine key 16 0 0 (-1) (by omega) ?_
      have z16 : ∀ c', 1 + m0 ≤ c' → ed_wys w true c' 0 0 n = 0 := fun c' hc' => ed_Mn_0 ok.va ok.now (fun q hq => ed_gi_0 (fun u => by
        have u := ed_goal0.mp u
        omega)) n _ (by omega)
      have e1 : ed_lk (fun c => ed_wys w true c 0 0 n) 16 0 0 (-1) = ed_lk (fun c => ed_wys w true c 0 0 n) m0 1 (nI 0) (lN (ed_wys w true 0 0 0 n)) := by
        rw [show 16 = 15 + 1 from rfl, ed_lk_s, if_neg (ed_lm _ (hT 0)), show 15 = m0 + (15 - m0) by omega]
        exact ed_lk_z hT m0 (15 - m0) 1 _ _ (hT 0) z16
      rw [e1]
      exact q h' ff.fx (ff.px p)
    · refine T_X11_likeliest (d := 1298) _ ko ?_
      rw [← eg]
      refine ⟨fun _ => ?_, fun z => ?_⟩
      · refine M_ly (d := 1293) p ok kog n (by omega) (fun g2 F my => ⟨rfl, F.ko kog, ?_⟩)
        obtain ⟨_, _, am, h1, _, h3⟩ := my
        have pg := F.pm p
        have eR : eb_I g2 s_m_all (1 : Int32).toNatClampNeg = nI w.va.R := pg.va.2.1.trans r1
        have eW : eb_I g2 s_m_all (2 : Int32).toNatClampNeg = nI w.va.W := pg.va.2.2.1.trans r2
        have hS : ∀ c, c < w.va.R * w.va.W → ec_sum (fun e => am (64 * c + e)) 64 = ed_wys w true c 0 0 n := fun c hc => by
          have e := ed_blk am c (64 * (w.va.R * w.va.W))
          rw [h3, show min (64 * (w.va.R * w.va.W) - 64 * c) 64 = 64 by omega] at e
          exact e.symm
        have key : ∀ (m c : Nat) (b : Int32) (x : Int64), c + m = w.va.R * w.va.W → Q (some (.int (ed_lk (fun c => ed_wys w true c 0 0 n) m c b x))) g2 → eb_Sn 1299 m_X11_likeliest h 34 [(0, .ref s_MO), (2, .int b), (3, .long x), (5, .int (nI c))] [] g2 Q := by
          intro m
          induction m with
          | zero =>
            intro c b x hc u
            refine b_X11_likeliest_34 (d := 1298) _ _ _ (F.ko kog) ?_
            rw [eR, eW, pk_mul]
            exact ⟨fun _ => u, fun z => absurd (nI_le (by omega) (by omega)) z⟩
          | succ m ih =>
            intro c b x hc u
            rw [ed_lk_s] at u
            refine b_X11_likeliest_34 (d := 1298) _ _ _ (F.ko kog) ?_
            rw [eR, eW, pk_mul]
            refine ⟨fun z => absurd z (nI_ge (by omega) (by omega)), fun _ => ?_⟩
            have inn : ∀ (m2 j : Nat), j + m2 = 64 → eb_Sn 1299 m_X11_likeliest h 49 [(0, .ref s_MO), (2, .int b), (3, .long x), (5, .int (nI c)), (6, .long (lN (ec_sum (fun e => am (64 * c + e)) j))), (8, .int (nI j))] [] g2 Q := by
              intro m2
              induction m2 with
              | zero =>
                intro j hj
                have hj : j = 64 := by omega
                subst hj
                refine b_X11_likeliest_49 (d := 1298) _ _ _ _ _ (F.ko kog) ⟨fun _ => ?_, fun z => absurd (by decide) z⟩
                rw [hS c (by omega), nI_1]
                refine ⟨fun z => ih (c + 1) _ _ (by omega) ?_, fun z => ih (c + 1) b x (by omega) ?_⟩
                · rw [if_neg (fun y => by rw [Int64.le_iff_toInt_le] at y; rw [Int64.lt_iff_toInt_lt] at z; omega)] at u
                  exact u
                · rw [if_pos (by rw [Int64.le_iff_toInt_le]; rw [Int64.lt_iff_toInt_lt] at z; omega)] at u
                  exact u
              | succ m2 ih2 =>
                intro j hj
                have nx := ih2 (j + 1) (by omega)
                rw [ed_ss] at nx
                have e64 : (64 : Int32) * nI c + nI j = nI (64 * c + j) := by
                  rw [show (64 : Int32) * nI c = nI (64 * c) from pk_mul 64 c, nI_add]
                refine b_X11_likeliest_49 (d := 1298) _ _ _ _ _ (F.ko kog) ⟨fun z => absurd z (nI_ge (a := j) (b := 64) (by omega) (by omega)), fun _ => ?_⟩
                rw [e64, eb_cln (n := 64 * c + j) (by omega), h1 (64 * c + j) (by omega), lN_add, nI_1]
                exact ⟨vp_in_nI (by omega) (by omega), nx⟩
            exact inn 64 0 (by omega)
        refine key (w.va.R * w.va.W) 0 (-1) (-1) (by omega) ?_
        rw [em0, ed_lk_s, if_neg (ed_lm _ (hT 0))]
        exact q g2 (F.fm kog) pg
      · exfalso; apply z; rw [eb_l64a, eb_l64b, eb_z64, c8]; omega
  · refine ⟨-3, w, ok, by omega, eb_XS.of (fun h ko p Q q => ?_), eb_MS.of (fun h g ko eg kog p Q q => ?_)⟩
    · refine T_X10_likeliest (d := 1298) _ ko ⟨fun _ => q h (eb_fx.rfl ko) p, fun z => ⟨fun z2 => ?_, fun _ => q h (eb_fx.rfl ko) p⟩⟩
      exfalso
      rw [eb_i32, eb_z32] at z
      rw [eb_i32e, d8] at z2
      omega
    · refine T_X11_likeliest (d := 1298) _ ko ?_
      rw [← eg]
      refine ⟨fun z => ?_, fun _ => q g (eb_fm.rfl kog) p⟩
      exfalso; rw [eb_l64a, eb_l64b, eb_z64, c8] at z; omega
end EBCHANCE
