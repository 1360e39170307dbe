section EBCAMEBY
variable {L : Nat} {xs : Nat → Int32}
theorem ed_nxcP {w : eb_Wo} (ok : eb_okW w) {st : Bool} {q y t : Nat} (pq : q < 1024 ∧ q % 16 < w.va.R * w.va.W) (hn : ed_nxc w.va w.now w.now.D st q y = some t) : t < 1024 ∧ t % 16 < w.va.R * w.va.W := by
  have r10 := ok.va.RW.2.2.2.2.2.2.2.2.2.1
  unfold ed_nxc at hn
  cases hg : ec_g w.va w.now w.now.D (ed_sd q) y with
  | none =>
    rw [hg] at hn
    dsimp only at hn
    split at hn
    · cases hn; exact pq
    · cases hn
  | some m0 =>
    rw [hg] at hn
    cases hn
    have hm0 := ec_g_lt ok.va ok.now (n := ed_sd q) (by unfold ed_sd; omega) hg
    have := ed_cdm (show m0 < 1024 by omega)
    exact ⟨ec_cd_lt (by omega), by omega⟩
theorem ed_s0P {w : eb_Wo} (ok : eb_okW w) : ec_cd (64 * w.now.b + w.now.e) < 1024 ∧ ec_cd (64 * w.now.b + w.now.e) % 16 < w.va.R * w.va.W := by
  have r10 := ok.va.RW.2.2.2.2.2.2.2.2.2.1
  obtain ⟨n1, n2, n3, n4, n5, n6, n7⟩ := ok.now.N ok.va
  have := ed_cdm (show 64 * w.now.b + w.now.e < 1024 by omega)
  exact ⟨ec_cd_lt (by omega), by omega⟩
theorem ed_inj {w : eb_Wo} (ok : eb_okW w) : ∀ a b, a < 64 * (w.va.R * w.va.W) → b < 64 * (w.va.R * w.va.W) → ec_cd a = ec_cd b → a = b := fun a b ha hb e => (ec_cd_inj (by have r10 := ok.va.RW.2.2.2.2.2.2.2.2.2.1; omega) (by have r10 := ok.va.RW.2.2.2.2.2.2.2.2.2.1; omega)).mp e
theorem ed_mp1 {w : eb_Wo} (ok : eb_okW w) : ∀ s y, s < 64 * (w.va.R * w.va.W) → ed_nxc w.va w.now w.now.D false (ec_cd s) y = (ed_nxb w (-1) s y).map ec_cd := fun s y hs => by rw [ed_nxc_m ok hs, ed_nxb_c ok (ed_nm1 ok) hs]
/-- the first of the flights of n steps that end there -/
def ed_isF (w : eb_Wo) (t n x : Nat) : Prop := ed_U (ed_nxb w (-1)) t n x (64 * w.now.b + w.now.e) ∧ ∀ x', ed_U (ed_nxb w (-1)) t n x' (64 * w.now.b + w.now.e) → x ≤ x'
theorem ed_fyF {w : eb_Wo} (ok : eb_okW w) (n : Nat) (hn : n ≤ 10) (t : Nat) (ht : t < 64 * (w.va.R * w.va.W)) : (ed_fy w 2 false n (ec_cd t) = -1 ∧ ∀ x, ¬ ed_U (ed_nxb w (-1)) t n x (64 * w.now.b + w.now.e)) ∨ ∃ x, ed_fy w 2 false n (ec_cd t) = lN x ∧ ed_isF w t n x := by
  have r10 := ok.va.RW.2.2.2.2.2.2.2.2.2.1
  obtain ⟨n1, n2, n3, n4, n5, n6, n7⟩ := ok.now.N ok.va
  have e0 : ed_non 2 = -1 := by decide
  have e1 : ed_sta 2 = 0 := by decide
  have V := ed_it_first (nx := ed_nxc w.va w.now w.now.D false) (P := fun q => q < 1024 ∧ q % 16 < w.va.R * w.va.W) (ed_s0P ok) (fun q h => h.1) (fun q y t pq h => ed_nxcP ok pq h) n hn
  have eU : ∀ x, ed_W (ed_nxc w.va w.now w.now.D false) (ec_cd (64 * w.now.b + w.now.e)) n x (ec_cd t) ↔ ed_U (ed_nxb w (-1)) t n x (64 * w.now.b + w.now.e) := fun x => by
    rw [ed_WU]
    exact ed_U_mp (ed_inj ok) (ed_mp1 ok) (fun s y m hs g => ed_nxb_lt ok hs g) ht n x _ (by omega)
  unfold ed_fy
  rw [e0, e1]
  rcases V (ec_cd t) (ec_cd_lt (by omega)) with ⟨a, b⟩ | ⟨x, a, _, c, d⟩
  · exact Or.inl ⟨a, fun x z => b x ((eU x).mpr z)⟩
  · exact Or.inr ⟨x, a, (eU x).mp c, fun x' z => d x' ((eU x').mpr z)⟩
/-- 29: cameBy -/
theorem c_cameBy (k : Nat) (h : eb_H) (v1 v2 v3 v4 : Int32) (inv : eb_Inv L xs k h) : eb_Pr 123 252 [.int v1, .int v2, .int v3, .int v4] (eb_Inv L xs (k + 1)) h := by
  refine eb_pr2 inv (fun w ok => ?_)
  have r10 := ok.va.RW.2.2.2.2.2.2.2.2.2.1
  obtain ⟨n1, n2, n3, n4, n5, n6, n7⟩ := ok.now.N ok.va
  have same2 : ∀ z : Int32, ∀ y w', (w' = w ∧ y = z) → eb_okW w' ∧ w'.fed ≤ w.fed + 20 := by
    rintro z y w' ⟨rfl, _⟩
    exact ⟨ok, by omega⟩
  by_cases hC : ec_okC w v2
  · by_cases hM : ed_okM v1 v3
    · by_cases hI : 0 ≤ v4
      · obtain ⟨n, c, e, ⟨hn, rfl⟩, ⟨hc, rfl⟩, ⟨he, rfl⟩⟩ := ed_numm hC hM
        obtain ⟨i, hi, rfl⟩ := nI_of (x := v4) (fun z => by rw [eb_i32] at z; rw [eb_i32e] at hI; omega)
        have ht : 64 * c + e < 64 * (w.va.R * w.va.W) := by omega
        refine ⟨fun y w' => w' = w ∧ ((y = -1 ∧ ∀ x, ¬ ed_U (ed_nxb w (-1)) (64 * c + e) n x (64 * w.now.b + w.now.e)) ∨ ∃ x, ed_isF w (64 * c + e) n x ∧ y = if i < n then nI (x / 4 ^ (n - 1 - i) % 4) else -1), ?_, fun h ko p => ?_, ?_⟩
        · rintro y w' ⟨rfl, _⟩
          exact ⟨ok, by omega⟩
        · refine T_X10_cameBy (d := 1297) _ _ _ _ ko (C_cm (d := 1297) p ok _ _ _ ko (fun _ _ => ⟨_, rfl, ko, fun _ => ⟨fun _ => ?_, fun z => absurd hI z⟩, fun z => absurd rfl z⟩) (fun _ z => absurd hM z) (fun z => absurd hC z))
          obtain ⟨v, ev, pv⟩ := p.va
          refine ⟨v, ev, pv.1.1, C_fa (d := 1292) p ko ok n (by omega) 2 false (by decide) v ev (fun h' r ff hr hJ => ⟨rfl, ff.1, ?_⟩)⟩
          rw [ed_code, eb_cln (n := 16 * e + c) (by omega)]
          refine ⟨fun z => absurd ⟨nI_pos (by omega), nI_ge (a := 16 * e + c) (b := 1024) (by omega) (by omega)⟩ z, fun _ => ⟨r, hr.1, hr.2.1, by rw [hr.2.2]; exact vp_in_nI (by omega) (by omega), ?_⟩⟩
          rw [hJ _ (by omega), ← ed_codeq he]
          rcases ed_fyF ok n (by omega) (64 * c + e) ht with ⟨a, b⟩ | ⟨x, a, b⟩
          · rw [a]
            exact ⟨fun _ => ⟨_, w, rfl, ff.fx, ff.px p, rfl, Or.inl ⟨rfl, b⟩⟩, fun z => absurd rfl z⟩
          · have xl : x < 2 ^ 31 := by
              have l1 := ed_U_lt b.1
              have s4 : 4 ^ n ≤ 4 ^ 10 := Nat.pow_le_pow_right (by decide) (by omega)
              exact Nat.lt_of_lt_of_le l1 (Nat.le_trans s4 (by decide))
            rw [a]
            refine ⟨fun z => absurd z (ed_ne1 xl), fun _ => ⟨fun z => ?_, fun z => ⟨_, w, rfl, ff.fx, ff.px p, rfl, Or.inr ⟨x, b, (if_neg (fun u => z (nI_lt u (by omega)))).symm⟩⟩⟩⟩
            have hin : i < n := by
              refine Classical.byContradiction fun u => ?_
              exact nI_nlt (a := i) (b := n) (by omega) hi z
            have e1 : (nI n - 1) - nI i = nI (n - 1 - i) := by
              rw [show nI n - 1 = nI (n - 1) from pk_sub (b := 1) (by omega), pk_sub (by omega)]
            have e2 : (2 : Int32) * nI (n - 1 - i) = nI (2 * (n - 1 - i)) := pk_mul 2 _
            have e3 : (lN x >>> ((nI (2 * (n - 1 - i))).toInt64 &&& 63)) &&& 3 = lN (x / 4 ^ (n - 1 - i) % 4) := by
              rw [wb_c _ (by omega), pf_shr (ec_smL _ (by omega)) (by omega), Nat.pow_mul]
              exact wb_mask (k := 2) (Nat.lt_of_le_of_lt (Nat.div_le_self _ _) (by omega)) (by omega)
            rw [e1, e2, e3, lN_i]
            exact ⟨_, w, rfl, ff.fx, ff.px p, rfl, Or.inr ⟨x, b, (if_pos hin).symm⟩⟩
        · rintro y w' ⟨rfl, alt⟩
          refine eb_MS.of (fun h g ko eg kog p Q q => ?_)
          refine T_X11_cameBy (d := 1298) _ _ _ _ ko ?_
          rw [← eg]
          refine M_cm (d := 1296) p ok _ _ _ kog (fun _ _ => ⟨_, rfl, kog, fun _ => ⟨fun _ => ?_, fun z => absurd hI z⟩, fun z => absurd rfl z⟩) (fun _ z => absurd hM z) (fun z => absurd hC z)
          refine M_lc (d := 1294) p ok kog n (by omega) c e hc he (-1) (fun g' F th sT => ⟨_, rfl, F.ko kog, ?_⟩)
          have fin : Q (some (.int y)) g' := q g' (F.fm kog) (F.pm p)
          rw [ed_l0 (ed_Mn_le10 (by omega)), ed_Mn_wk, ed_U_wk]
          rcases alt with ⟨rfl, no⟩ | ⟨x, isF, rfl⟩
          · exact ⟨fun _ => fin, fun z => absurd (fun ⟨r, u⟩ => no r u) z⟩
          · refine ⟨fun z => absurd ⟨x, isF.1⟩ z, fun _ => ⟨fun z => ?_, fun z => ?_⟩⟩
            · have hin : i < n := by
                refine Classical.byContradiction fun u => ?_
                exact nI_nlt (a := i) (b := n) (by omega) hi z
              rw [if_pos hin] at fin
              have pg := F.pm p
              rw [ec_stand pg.now ok.va ok.now]
              have key : ∀ (m k s r : Nat), k + m = i → ed_U (ed_nxb w' (-1)) (64 * c + e) (n - k) r s → (∀ r', ed_U (ed_nxb w' (-1)) (64 * c + e) (n - k) r' s → r ≤ r') → r = x % 4 ^ (n - k) → s < 64 * (w'.va.R * w'.va.W) → eb_Sn 1299 m_X11_cameBy h 60 [(0, .ref s_MO), (1, .int (nI n)), (4, .int (nI i)), (6, .int (nI s)), (7, .int (nI k))] [] g' Q := by
                intro m
                induction m with
                | zero =>
                  intro k s r hk hu hmin hr hs
                  have hk : k = i := by omega
                  subst hk
                  obtain ⟨j, hj⟩ : ∃ j, n - k = j + 1 := ⟨n - k - 1, by omega⟩
                  rw [hj] at hu hmin hr
                  obtain ⟨y0, m0, r', hy0, er, hr', g0, u0⟩ := hu
                  have p4 : 0 < 4 ^ j := Nat.pow_pos (by decide)
                  have ejx : ((nI n - nI k) - 1 : Int32) = nI j := by
                    rw [pk_sub (by omega), hj]
                    exact pk_sub (b := 1) (by omega)
                  have inner : ∀ (m2 y : Nat), y + m2 = y0 → eb_Sn 1299 m_X11_cameBy h 63 [(0, .ref s_MO), (1, .int (nI n)), (4, .int (nI k)), (6, .int (nI s)), (7, .int (nI k)), (8, .int (nI y))] [] g' Q := by
                    intro m2
                    induction m2 with
                    | zero =>
                      intro y hy
                      have hy : y = y0 := by omega
                      subst hy
                      have e4 : (4 : Int32) * nI s + nI y = nI (4 * s + y) := by
                        rw [show (4 : Int32) * nI s = nI (4 * s) from pk_mul 4 s, nI_add]
                      have hm0 := ed_nxb_lt ok hs g0
                      have et : eb_I g' s_m_then (4 * s + y) = nI m0 := by rw [th s y hs hy0, (ed_nxb_s g0).1]; rfl
                      have eq : (1024 : Int32) * nI j + nI m0 = nI (1024 * j + m0) := by
                        rw [show (1024 : Int32) * nI j = nI (1024 * j) from pk_mul 1024 _, nI_add]
                      refine b_X11_cameBy_63 (d := 1298) _ _ _ _ _ (F.ko kog) ?_
                      rw [e4, eb_cln (n := 4 * s + y) (by omega), et, ejx, eq, eb_cln (n := 1024 * j + m0) (by omega), sT j m0 (by omega) hm0, ed_l0 (ed_Mn_le10 (by omega)), ed_Mn_wk, ed_U_wk]
                      refine ⟨vp_in_nI (by omega) (by omega), fun z => absurd z (ec_m1 (by omega)), fun _ => ⟨vp_in_nI (by omega) (by omega), vp_in_nI (by omega) (by omega), fun _ => ⟨fun z => absurd rfl z, fun _ => ?_⟩, fun z => absurd ⟨r', u0⟩ z⟩⟩
                      have ey : x / 4 ^ (n - 1 - k) % 4 = y := by
                        rw [show n - 1 - k = j by omega]
                        have e1 : x % 4 ^ (j + 1) / 4 ^ j = x / 4 ^ j % 4 := by rw [Nat.pow_succ]; exact Nat.mod_mul_right_div_self _ _ _
                        rw [← e1, ← hr, er, Nat.add_comm, Nat.add_mul_div_right _ _ p4, Nat.div_eq_of_lt hr', Nat.zero_add]
                      rw [ey] at fin
                      exact fin
                    | succ m2 ih2 =>
                      intro y hy
                      have e4 : (4 : Int32) * nI s + nI y = nI (4 * s + y) := by
                        rw [show (4 : Int32) * nI s = nI (4 * s) from pk_mul 4 s, nI_add]
                      refine b_X11_cameBy_63 (d := 1298) _ _ _ _ _ (F.ko kog) ?_
                      rw [e4, eb_cln (n := 4 * s + y) (by omega), th s y hs (by omega), ejx, nI_1]
                      cases hg : ec_g w'.va w'.now w'.now.D s y with
                      | none => exact ⟨vp_in_nI (by omega) (by omega), fun _ => ih2 (y + 1) (by omega), fun z => absurd rfl z⟩
                      | some t =>
                        have ht := ec_g_lt ok.va ok.now hs hg
                        have yn : ec_oi (some t) = nI t := rfl
                        have eq : (1024 : Int32) * nI j + nI t = nI (1024 * j + t) := by
                          rw [show (1024 : Int32) * nI j = nI (1024 * j) from pk_mul 1024 _, nI_add]
                        rw [yn, eq, eb_cln (n := 1024 * j + t) (by omega), sT j t (by omega) ht, ed_l0 (ed_Mn_le10 (by omega)), ed_Mn_wk, ed_U_wk]
                        refine ⟨vp_in_nI (by omega) (by omega), fun z => absurd z (ec_m1 (by omega)), fun _ => ⟨vp_in_nI (by omega) (by omega), vp_in_nI (by omega) (by omega), fun z => absurd (fun ⟨r2, u2⟩ => ?_) z, fun _ => ih2 (y + 1) (by omega)⟩⟩
                        have l2 := ed_U_lt u2
                        have := hmin (y * 4 ^ j + r2) ⟨y, t, r2, by omega, rfl, l2, by rw [ed_nxb_c ok (ed_nm1 ok) hs]; exact hg, u2⟩
                        have le : (y + 1) * 4 ^ j ≤ y0 * 4 ^ j := Nat.mul_le_mul_right _ (by omega)
                        rw [Nat.add_mul, Nat.one_mul] at le
                        omega
                  exact b_X11_cameBy_60 (d := 1298) _ _ _ _ (F.ko kog) (inner y0 0 (by omega))
                | succ m ihm =>
                  intro k s r hk hu hmin hr hs
                  obtain ⟨j, hj⟩ : ∃ j, n - k = j + 1 := ⟨n - k - 1, by omega⟩
                  have hj2 : n - (k + 1) = j := by omega
                  have nxt := ihm (k + 1)
                  rw [hj2] at nxt
                  rw [hj] at hu hmin hr
                  obtain ⟨y0, m0, r', hy0, er, hr', g0, u0⟩ := hu
                  have p4 : 0 < 4 ^ j := Nat.pow_pos (by decide)
                  have hm0 := ed_nxb_lt ok hs g0
                  have ejx : ((nI n - nI k) - 1 : Int32) = nI j := by
                    rw [pk_sub (by omega), hj]
                    exact pk_sub (b := 1) (by omega)
                  have go := nxt m0 r' (by omega) u0 (fun r2 u2 => by
                    have l2 := ed_U_lt u2
                    have := hmin (y0 * 4 ^ j + r2) ⟨y0, m0, r2, hy0, rfl, l2, g0, u2⟩
                    omega) (by
                    have e1 : r % 4 ^ j = r' := by rw [er, Nat.add_comm, Nat.add_mul_mod_self_right, Nat.mod_eq_of_lt hr']
                    rw [← e1, hr]
                    exact Nat.mod_mod_of_dvd _ ⟨4, Nat.pow_succ 4 j⟩) hm0
                  have inner : ∀ (m2 y : Nat), y + m2 = y0 → eb_Sn 1299 m_X11_cameBy h 63 [(0, .ref s_MO), (1, .int (nI n)), (4, .int (nI i)), (6, .int (nI s)), (7, .int (nI k)), (8, .int (nI y))] [] g' Q := by
                    intro m2
                    induction m2 with
                    | zero =>
                      intro y hy
                      have hy : y = y0 := by omega
                      subst hy
                      have e4 : (4 : Int32) * nI s + nI y = nI (4 * s + y) := by
                        rw [show (4 : Int32) * nI s = nI (4 * s) from pk_mul 4 s, nI_add]
                      have et : eb_I g' s_m_then (4 * s + y) = nI m0 := by rw [th s y hs hy0, (ed_nxb_s g0).1]; rfl
                      have eq : (1024 : Int32) * nI j + nI m0 = nI (1024 * j + m0) := by
                        rw [show (1024 : Int32) * nI j = nI (1024 * j) from pk_mul 1024 _, nI_add]
                      refine b_X11_cameBy_63 (d := 1298) _ _ _ _ _ (F.ko kog) ?_
                      rw [e4, eb_cln (n := 4 * s + y) (by omega), et, ejx, eq, eb_cln (n := 1024 * j + m0) (by omega), sT j m0 (by omega) hm0, ed_l0 (ed_Mn_le10 (by omega)), ed_Mn_wk, ed_U_wk, nI_1 k]
                      refine ⟨vp_in_nI (by omega) (by omega), fun z => absurd z (ec_m1 (by omega)), fun _ => ⟨vp_in_nI (by omega) (by omega), vp_in_nI (by omega) (by omega), fun _ => ⟨fun _ => ⟨vp_in_nI (by omega) (by omega), go⟩, fun z => ?_⟩, fun z => absurd ⟨r', u0⟩ z⟩⟩
                      exfalso
                      rw [nI_eq (by omega) (by omega)] at z
                      omega
                    | succ m2 ih2 =>
                      intro y hy
                      have e4 : (4 : Int32) * nI s + nI y = nI (4 * s + y) := by
                        rw [show (4 : Int32) * nI s = nI (4 * s) from pk_mul 4 s, nI_add]
                      refine b_X11_cameBy_63 (d := 1298) _ _ _ _ _ (F.ko kog) ?_
                      rw [e4, eb_cln (n := 4 * s + y) (by omega), th s y hs (by omega), ejx, nI_1 y]
                      cases hg : ec_g w'.va w'.now w'.now.D s y with
                      | none => exact ⟨vp_in_nI (by omega) (by omega), fun _ => ih2 (y + 1) (by omega), fun z => absurd rfl z⟩
                      | some t =>
                        have ht := ec_g_lt ok.va ok.now hs hg
                        have yn : ec_oi (some t) = nI t := rfl
                        have eq : (1024 : Int32) * nI j + nI t = nI (1024 * j + t) := by
                          rw [show (1024 : Int32) * nI j = nI (1024 * j) from pk_mul 1024 _, nI_add]
                        rw [yn, eq, eb_cln (n := 1024 * j + t) (by omega), sT j t (by omega) ht, ed_l0 (ed_Mn_le10 (by omega)), ed_Mn_wk, ed_U_wk]
                        refine ⟨vp_in_nI (by omega) (by omega), fun z => absurd z (ec_m1 (by omega)), fun _ => ⟨vp_in_nI (by omega) (by omega), vp_in_nI (by omega) (by omega), fun z => absurd (fun ⟨r2, u2⟩ => ?_) z, fun _ => ih2 (y + 1) (by omega)⟩⟩
                        have l2 := ed_U_lt u2
                        have := hmin (y * 4 ^ j + r2) ⟨y, t, r2, by omega, rfl, l2, by rw [ed_nxb_c ok (ed_nm1 ok) hs]; exact hg, u2⟩
                        have le : (y + 1) * 4 ^ j ≤ y0 * 4 ^ j := Nat.mul_le_mul_right _ (by omega)
                        rw [Nat.add_mul, Nat.one_mul] at le
                        omega
                  exact b_X11_cameBy_60 (d := 1298) _ _ _ _ (F.ko kog) (inner y0 0 (by omega))
              refine key i 0 (64 * w'.now.b + w'.now.e) x (by omega) isF.1 isF.2 ?_ (by omega)
              rw [Nat.sub_zero, Nat.mod_eq_of_lt (ed_U_lt isF.1)]
            · rw [if_neg (fun u => z (nI_lt u (by omega)))] at fin
              exact fin
      · refine ⟨fun y w' => w' = w ∧ y = -3, same2 _, fun h ko p => ?_, ?_⟩
        · exact T_X10_cameBy (d := 1297) _ _ _ _ ko (C_cm (d := 1297) p ok _ _ _ ko (fun _ _ => ⟨_, rfl, ko, fun _ => ⟨fun z => absurd z hI, fun _ => ⟨_, w, rfl, eb_fx.rfl ko, p, rfl, rfl⟩⟩, fun z => absurd rfl z⟩) (fun _ z => absurd hM z) (fun z => absurd hC z))
        · rintro y w' ⟨rfl, rfl⟩
          refine eb_MS.of (fun h g ko eg kog p Q q => ?_)
          refine T_X11_cameBy (d := 1298) _ _ _ _ ko ?_
          rw [← eg]
          exact M_cm (d := 1296) p ok _ _ _ kog (fun _ _ => ⟨_, rfl, kog, fun _ => ⟨fun z => absurd z hI, fun _ => q g (eb_fm.rfl kog) p⟩, fun z => absurd rfl z⟩) (fun _ z => absurd hM z) (fun z => absurd hC z)
    · refine ⟨fun y w' => w' = w ∧ y = -3, same2 _, fun h ko p => ?_, ?_⟩
      · exact T_X10_cameBy (d := 1297) _ _ _ _ ko (C_cm (d := 1297) p ok _ _ _ ko (fun _ z => absurd z hM) (fun _ _ => ⟨_, rfl, ko, fun z => absurd z (by decide), fun _ => ⟨_, w, rfl, eb_fx.rfl ko, p, rfl, rfl⟩⟩) (fun z => absurd hC z))
      · rintro y w' ⟨rfl, rfl⟩
        refine eb_MS.of (fun h g ko eg kog p Q q => ?_)
        refine T_X11_cameBy (d := 1298) _ _ _ _ ko ?_
        rw [← eg]
        exact M_cm (d := 1296) p ok _ _ _ kog (fun _ z => absurd z hM) (fun _ _ => ⟨_, rfl, kog, fun z => absurd z (by decide), fun _ => q g (eb_fm.rfl kog) p⟩) (fun z => absurd hC z)
  · refine ⟨fun y w' => w' = w ∧ y = -2, same2 _, fun h ko p => ?_, ?_⟩
    · exact T_X10_cameBy (d := 1297) _ _ _ _ ko (C_cm (d := 1297) p ok _ _ _ ko (fun z _ => absurd z hC) (fun z _ => absurd z hC) (fun _ => ⟨_, rfl, ko, fun z => absurd z (by decide), fun _ => ⟨_, w, rfl, eb_fx.rfl ko, p, rfl, rfl⟩⟩))
    · rintro y w' ⟨rfl, rfl⟩
      refine eb_MS.of (fun h g ko eg kog p Q q => ?_)
      refine T_X11_cameBy (d := 1298) _ _ _ _ ko ?_
      rw [← eg]
      exact M_cm (d := 1296) p ok _ _ _ kog (fun z _ => absurd z hC) (fun z _ => absurd z hC) (fun _ => ⟨_, rfl, kog, fun z => absurd z (by decide), fun _ => q g (eb_fm.rfl kog) p⟩)
end EBCAMEBY
