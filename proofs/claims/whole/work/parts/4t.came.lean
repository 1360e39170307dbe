section EBCAME
variable {L : Nat} {xs : Nat → Int32}
/-! ===== the reference's rows of what is still to come ===== -/
def ed_fh (g g' : eb_H) : Prop := eb_nz g g' ∧ (∀ c, ¬ ec_mt c → eb_I g' c = eb_I g c) ∧ ∀ c, c ≠ s_m_still → eb_J g' c = eb_J g c
theorem ed_fh.rfl {g : eb_H} : ed_fh g g := ⟨eb_nz.rfl, fun _ _ => Eq.refl _, fun _ _ => Eq.refl _⟩
theorem ed_fh.trans {g g1 g2 : eb_H} (a : ed_fh g g1) (b : ed_fh g1 g2) : ed_fh g g2 := ⟨a.1.trans b.1, fun c z => (b.2.1 c z).trans (a.2.1 c z), fun c x => (b.2.2 c x).trans (a.2.2 c x)⟩
theorem ed_fh.of {g g' : eb_H} (f : ec_fr ec_mt g g') : ed_fh g g' := ⟨f.1, f.2.2, fun c _ => by rw [f.2.1]⟩
theorem ed_fh.sJ {g g1 : eb_H} (a : ed_fh g g1) {k : Nat} {v : Int64} : ed_fh g (eb_sJ g1 s_m_still k v) := ⟨a.1, a.2.1, fun c x => by
  rw [ec_J_sJ' x]
  exact a.2.2 c x⟩
theorem ed_fh.ko {g g' : eb_H} (f : ed_fh g g') (ko : eb_KO g) : eb_KO g' := f.1.ko ko
theorem ed_fh.pm {w : eb_Wo} {g g' : eb_H} (f : ed_fh g g') (p : PM w g) : PM w g' := by
  have e0 : eb_I g' s_MO = eb_I g s_MO := f.2.1 _ (by unfold ec_mt ec_mw; decide)
  exact p.mvD (by rw [e0]) (by rw [e0]) (by rw [e0]) (fun c z => f.2.1 c (by
    unfold ec_mt ec_mw
    rcases z with rfl | rfl | rfl | rfl | rfl <;> decide)) (f.2.2 _ (by decide))
theorem ed_fh.fm {g g' : eb_H} (f : ed_fh g g') (ko : eb_KO g) : eb_fm g g' := eb_fm.of ko f.1 (fun c nc => ⟨f.2.1 c (fun z => nc (ec_mt_M c z)), f.2.2 c (fun e => nc (by rw [e]; unfold eb_isM eb_ix s_m_still; omega)), by rw [f.1.2.2.2.2]⟩)
def ed_ST (w : eb_Wo) (x : Int32) (t n : Nat) (g : eb_H) : Prop := ∀ j s, j ≤ n → s < 64 * (w.va.R * w.va.W) → eb_J g s_m_still (1024 * j + s) = lN (ed_Mn (ed_nxb w x) (ed_dl t) j s)
theorem M_lc {d : Nat} {g : eb_H} {Q : Option Value → eb_H → Prop} {w : eb_Wo} (p : PM w g) (ok : eb_okW w) (kog : eb_KO g) (n : Nat) (hn : n ≤ 10) (c e : Nat) (hc : c < w.va.R * w.va.W) (he : e < 64) (x : Int32) (q : ∀ g', ed_fh g g' → ed_TH w g' → ed_ST w x (64 * c + e) n g' → Q (some (.long (lN (ed_Mn (ed_nxb w x) (ed_dl (64 * c + e)) n (64 * w.now.b + w.now.e))))) g') : eb_Ct (d + 4) 250 [.ref s_MO, .int (nI n), .int (nI c), .int (nI e), .int x] g Q := by
  obtain ⟨r1, r2, r3, r4, r5, r6, r7, r8, r9, r10, _⟩ := ok.va.RW
  obtain ⟨n1, n2, n3, n4, n5, n6, n7⟩ := ok.now.N ok.va
  have e50 : eb_I g s_m_all (50 : Int32).toNatClampNeg = nI w.now.D := p.now.2.2.2.2.1.trans n3
  refine T_X11_laysCame (d := d + 2) _ _ _ _ kog ?_
  rw [e50]
  refine M_then (d := d) p ok kog w.now.D n6 (fun g1 F1 th => ⟨rfl, F1.ko kog, ?_⟩)
  have e64 : (64 : Int32) * nI c + nI e = nI (64 * c + e) := by
    rw [show (64 : Int32) * nI c = nI (64 * c) from pk_mul 64 c, nI_add]
  -- rounds
  have rounds : ∀ (m j : Nat) (g2 : eb_H), j + m = n + 1 → 1 ≤ j → ed_fh g g2 → eb_I g2 s_m_then = eb_I g1 s_m_then → ed_ST w x (64 * c + e) (j - 1) g2 → eb_Sn (d + 4) m_X11_laysCame g 55 [(0, .ref s_MO), (1, .int (nI n)), (4, .int x), (5, .int (nI j))] [] g2 Q := by
    intro m
    induction m with
    | zero =>
      intro j g2 hj h1 F e2 sT
      have hj : j = n + 1 := by omega
      subst hj
      have pg := F.pm p
      refine b_X11_laysCame_55 (d := d + 2) _ _ _ (F.ko kog) ⟨fun _ => ?_, fun z => absurd (nI_lt (by omega) (by omega)) z⟩
      rw [ec_stand pg.now ok.va ok.now, show (1024 : Int32) * nI n = nI (1024 * n) from pk_mul 1024 n, nI_add, eb_cln (n := 1024 * n + (64 * w.now.b + w.now.e)) (by omega)]
      refine ⟨vp_in_nI (by omega) (by omega), ?_⟩
      rw [sT n (64 * w.now.b + w.now.e) (by omega) (by omega)]
      exact q g2 F (fun n' way hn' hw => by rw [e2]; exact th n' way hn' hw) sT
    | succ m ih =>
      intro j g2 hj h1 F e2 sT
      refine b_X11_laysCame_55 (d := d + 2) _ _ _ (F.ko kog) ⟨fun z => absurd z (nI_nlt (by omega) (by omega)), fun _ => ?_⟩
      have row : ∀ (m2 s : Nat) (g3 : eb_H), s + m2 = 64 * (w.va.R * w.va.W) → ed_fh g g3 → eb_I g3 s_m_then = eb_I g1 s_m_then → ed_ST w x (64 * c + e) (j - 1) g3 → (∀ s', s' < s → eb_J g3 s_m_still (1024 * j + s') = lN (ed_Mn (ed_nxb w x) (ed_dl (64 * c + e)) j s')) → eb_Sn (d + 4) m_X11_laysCame g 64 [(0, .ref s_MO), (1, .int (nI n)), (4, .int x), (5, .int (nI j)), (6, .int (nI s))] [] g3 Q := by
        intro m2
        induction m2 with
        | zero =>
          intro s g3 hs F3 e3 sT3 rw3
          refine b_X11_laysCame_64 (d := d + 2) _ _ _ _ (F3.ko kog) ?_
          rw [ed_cells (F3.pm p) ok, nI_1]
          refine ⟨fun _ => ih (j + 1) g3 (by omega) (by omega) F3 e3 (fun j' s' hj' hs' => ?_), fun z => absurd (nI_le (by omega) (by omega)) z⟩
          by_cases ej : j' = j
          · rw [ej]; exact rw3 s' (by omega)
          · exact sT3 j' s' (by omega) hs'
        | succ m2 ih2 =>
          intro s g3 hs F3 e3 sT3 rw3
          refine b_X11_laysCame_64 (d := d + 2) _ _ _ _ (F3.ko kog) ?_
          rw [ed_cells (F3.pm p) ok]
          refine ⟨fun z => absurd z (nI_ge (by omega) (by omega)), fun _ => ?_⟩
          have ways : ∀ (m3 y : Nat), y + m3 = 4 → eb_Sn (d + 4) m_X11_laysCame g 79 [(0, .ref s_MO), (1, .int (nI n)), (4, .int x), (5, .int (nI j)), (6, .int (nI s)), (7, .long (lN (ed_M (ed_nxb w x) (ed_Mn (ed_nxb w x) (ed_dl (64 * c + e)) (j - 1)) s y))), (9, .int (nI y))] [] g3 Q := by
            intro m3
            induction m3 with
            | zero =>
              intro y hy
              have hy : y = 4 := by omega
              subst hy
              have ej : (1024 : Int32) * nI j + nI s = nI (1024 * j + s) := by
                rw [show (1024 : Int32) * nI j = nI (1024 * j) from pk_mul 1024 j, nI_add]
              refine b_X11_laysCame_79 (d := d + 2) _ _ _ _ _ _ (F3.ko kog) ⟨fun _ => ?_, fun z => absurd (by decide) z⟩
              rw [ej, eb_cln (n := 1024 * j + s) (by omega), nI_1]
              refine ⟨vp_in_nI (by omega) (by omega), ih2 (s + 1) _ (by omega) F3.sJ e3 (fun j' s' hj' hs' => ?_) (fun s' hs' => ?_)⟩
              · rw [eb_J_sJ, if_neg (by omega)]
                exact sT3 j' s' hj' hs'
              · rw [eb_J_sJ]
                by_cases es : s' = s
                · rw [if_pos (by rw [es]), es]
                  have : j = j - 1 + 1 := by omega
                  show _ = lN (ed_Mn (ed_nxb w x) (ed_dl (64 * c + e)) j s)
                  rw [this]
                  rfl
                · rw [if_neg (by omega)]
                  exact rw3 s' (by omega)
            | succ m3 ih3 =>
              intro y hy
              have nx := ih3 (y + 1) (by omega)
              rw [ed_Ms] at nx
              have e4 : (4 : Int32) * nI s + nI y = nI (4 * s + y) := by
                rw [show (4 : Int32) * nI s = nI (4 * s) from pk_mul 4 s, nI_add]
              have et : eb_I g3 s_m_then (4 * s + y) = ec_oi (ec_g w.va w.now w.now.D s y) := by rw [e3]; exact th s y (by omega) (by omega)
              have ej : nI j - 1 = nI (j - 1) := pk_sub (b := 1) h1
              refine b_X11_laysCame_79 (d := d + 2) _ _ _ _ _ _ (F3.ko kog) ⟨fun z => absurd z (nI_ge (a := y) (b := 4) (by omega) (by omega)), fun _ => ⟨?_, ?_⟩⟩
              · rw [e4]; exact vp_in_nI (by omega) (by omega)
              · rw [e4, eb_cln (n := 4 * s + y) (by omega), et, nI_1, ej]
                cases hg : ec_g w.va w.now w.now.D s y with
                | none =>
                  have hb : ed_nxb w x s y = none := by unfold ed_nxb; rw [hg]
                  rw [hb] at nx
                  exact ⟨fun _ => nx, fun z => absurd rfl z⟩
                | some t =>
                  have ht := ec_g_lt ok.va ok.now (show s < 64 * (w.va.R * w.va.W) by omega) hg
                  have yn : ec_oi (some t) = nI t := rfl
                  have ed : nI t / 64 = nI (t / 64) := pk_div (d := 64) (by omega) (by omega) (by omega)
                  have eq : (1024 : Int32) * nI (j - 1) + nI t = nI (1024 * (j - 1) + t) := by
                    rw [show (1024 : Int32) * nI (j - 1) = nI (1024 * (j - 1)) from pk_mul 1024 _, nI_add]
                  rw [yn, ed, eq, eb_cln (n := 1024 * (j - 1) + t) (by omega), sT3 (j - 1) t (Nat.le_refl _) ht]
                  refine ⟨fun z => absurd z (ec_m1 (by omega)), fun _ => ⟨fun z => ?_, fun z => ⟨vp_in_nI (by omega) (by omega), ?_⟩⟩⟩
                  · have hb : ed_nxb w x s y = none := by
                      unfold ed_nxb
                      rw [hg]
                      exact if_pos z
                    rw [hb] at nx
                    exact nx
                  · have hb : ed_nxb w x s y = some t := by
                      unfold ed_nxb
                      rw [hg]
                      exact if_neg z
                    rw [hb] at nx
                    rw [lN_add]
                    exact nx
          exact ways 4 0 (by omega)
      exact row _ 0 g2 (Nat.zero_add _) F e2 sT (fun s' hs' => absurd hs' (by omega))
  have lay : ∀ (m s : Nat) (g2 : eb_H), s + m = 64 * (w.va.R * w.va.W) → ed_fh g g2 → eb_I g2 s_m_then = eb_I g1 s_m_then → (∀ s', s' < s → eb_J g2 s_m_still s' = lN (ed_dl (64 * c + e) s')) → eb_Sn (d + 4) m_X11_laysCame g 14 [(0, .ref s_MO), (1, .int (nI n)), (2, .int (nI c)), (3, .int (nI e)), (4, .int x), (5, .int (nI s))] [] g2 Q := by
    intro m
    induction m with
    | zero =>
      intro s g2 hs F e2 a
      refine b_X11_laysCame_14 (d := d + 2) _ _ _ _ _ (F.ko kog) ?_
      rw [ed_cells (F.pm p) ok]
      refine ⟨fun _ => rounds n 1 g2 (by omega) (Nat.le_refl _) F e2 (fun j' s' hj' hs' => ?_), fun z => absurd (nI_le (by omega) (by omega)) z⟩
      have : j' = 0 := by omega
      subst this
      rw [Nat.mul_zero, Nat.zero_add]
      exact a s' (by omega)
    | succ m ih =>
      intro s g2 hs F e2 a
      refine b_X11_laysCame_14 (d := d + 2) _ _ _ _ _ (F.ko kog) ?_
      rw [ed_cells (F.pm p) ok, e64, eb_cln (n := s) (by omega), nI_1]
      refine ⟨fun z => absurd z (nI_ge (by omega) (by omega)), fun _ => ⟨vp_in_nI (by omega) (by omega), ?_⟩⟩
      have ev : (if nI s = nI (64 * c + e) then 1 else 0 : Int64) = lN (ed_dl (64 * c + e) s) := by
        unfold ed_dl
        by_cases z : s = 64 * c + e
        · rw [if_pos (by rw [z]), if_pos z]; rfl
        · rw [if_neg (by rw [nI_eq (by omega) (by omega)]; exact z), if_neg z]; rfl
      rw [ev]
      refine ih (s + 1) _ (by omega) F.sJ e2 (fun s' hs' => ?_)
      rw [eb_J_sJ]
      by_cases z : s' = s
      · rw [if_pos z, z]
      · rw [if_neg z]; exact a s' (by omega)
  exact lay _ 0 g1 (Nat.zero_add _) (ed_fh.of F1) rfl (fun s' hs' => absurd hs' (by omega))
/-! refusals -/
def ed_okM (v1 v3 : Int32) : Prop := (0 ≤ v1.toInt ∧ v1.toInt < (11 : Nat)) ∧ (0 ≤ v3.toInt ∧ v3.toInt < (64 : Nat))
theorem C_cm {d : Nat} {h : eb_H} {Q : Option Value → eb_H → Prop} {w : eb_Wo} (p : PX w h) (ok : eb_okW w) (v1 v2 v3 : Int32) (ko : eb_KO h) (q1 : ec_okC w v2 → ed_okM v1 v3 → Q (some (.int 0)) h) (q2 : ec_okC w v2 → ¬ ed_okM v1 v3 → Q (some (.int (-3))) h) (q3 : ¬ ec_okC w v2 → Q (some (.int (-2))) h) : eb_Ct (d + 1) 146 [.ref s_EB, .int v1, .int v2, .int v3] h Q := by
  obtain ⟨v, ev, pv⟩ := p.va
  have d10 : (10 : Int32).toInt = 10 := by decide
  have d64 : (64 : Int32).toInt = 64 := by decide
  refine T_X10_cameRefusal (d := d) _ _ _ ko ⟨v, ev, pv.1.1, fun z => ?_, fun z => q3 (fun u => z ((X_has pv ok.va _).mpr u))⟩
  have hC := (X_has pv ok.va _).mp z
  by_cases u : ed_okM v1 v3
  · have t := q1 hC u
    unfold ed_okM at u
    rw [if_neg (by rw [eb_i32, eb_z32]; omega), if_neg (by rw [eb_i32, d10]; omega), if_neg (by rw [eb_i32, eb_z32]; omega), if_pos (by rw [eb_i32, d64]; omega)]
    exact t
  · have t := q2 hC u
    unfold ed_okM at u
    by_cases x1 : v1 < 0
    · rw [if_pos x1]; exact t
    · by_cases x2 : (10 : Int32) < v1
      · rw [if_neg x1, if_pos x2]; exact t
      · by_cases x3 : v3 < 0
        · rw [if_neg x1, if_neg x2, if_pos x3]; exact t
        · rw [if_neg x1, if_neg x2, if_neg x3]
          rw [eb_i32, eb_z32] at x1 x3
          rw [eb_i32, d10] at x2
          rw [if_neg (by rw [eb_i32, d64]; omega)]
          exact t
theorem M_cm {d : Nat} {h : eb_H} {Q : Option Value → eb_H → Prop} {w : eb_Wo} (p : PM w h) (ok : eb_okW w) (v1 v2 v3 : Int32) (ko : eb_KO h) (q1 : ec_okC w v2 → ed_okM v1 v3 → Q (some (.int 0)) h) (q2 : ec_okC w v2 → ¬ ed_okM v1 v3 → Q (some (.int (-3))) h) (q3 : ¬ ec_okC w v2 → Q (some (.int (-2))) h) : eb_Ct (d + 2) 249 [.ref s_MO, .int v1, .int v2, .int v3] h Q := by
  refine T_X11_noCame (d := d) _ _ _ ko ?_
  have c10 : (10 : Int64).toInt = 10 := by decide
  have c63 : (63 : Int64).toInt = 63 := by decide
  by_cases z : ec_okC w v2
  · rw [if_pos ((M_has p.va ok.va v2).mpr z)]
    by_cases u : ed_okM v1 v3
    · have t := q1 z u
      unfold ed_okM at u
      rw [if_neg (by rw [eb_l64a, eb_z64]; omega), if_neg (by rw [eb_l64b, c10]; omega), if_neg (by rw [eb_l64a, eb_z64]; omega), if_neg (by rw [eb_l64b, c63]; omega)]
      exact t
    · have t := q2 z u
      unfold ed_okM at u
      by_cases x1 : v1.toInt64 < 0
      · rw [if_pos x1]; exact t
      · by_cases x2 : 10 < v1.toInt64
        · rw [if_neg x1, if_pos x2]; exact t
        · by_cases x3 : v3.toInt64 < 0
          · rw [if_neg x1, if_neg x2, if_pos x3]; exact t
          · rw [if_neg x1, if_neg x2, if_neg x3]
            rw [eb_l64a, eb_z64] at x1 x3
            rw [eb_l64b, c10] at x2
            rw [if_pos (by rw [eb_l64b, c63]; omega)]
            exact t
  · rw [if_neg (fun u => z ((M_has p.va ok.va v2).mp u))]
    exact q3 z
theorem ed_numm {w : eb_Wo} {v1 v2 v3 : Int32} (hC : ec_okC w v2) (hM : ed_okM v1 v3) : ∃ n c e, (n < 11 ∧ v1 = nI n) ∧ (c < w.va.R * w.va.W ∧ v2 = nI c) ∧ (e < 64 ∧ v3 = nI e) := by
  obtain ⟨n, hn, rfl⟩ := ec_in hM.1
  obtain ⟨c, hc, rfl⟩ := ec_in hC
  obtain ⟨e, he, rfl⟩ := ec_in hM.2
  exact ⟨n, c, e, ⟨hn, rfl⟩, ⟨hc, rfl⟩, ⟨he, rfl⟩⟩
theorem ed_nm1 {w : eb_Wo} (ok : eb_okW w) : ∀ c, c < w.va.R * w.va.W → ¬ nI c = (-1 : Int32) := fun c hc => ec_m1 (by have r10 := ok.va.RW.2.2.2.2.2.2.2.2.2.1; omega)
theorem ed_code {c e : Nat} : (16 : Int32) * nI e + nI c = nI (16 * e + c) := by
  rw [show (16 : Int32) * nI e = nI (16 * e) from pk_mul 16 e, nI_add]
theorem ed_codeq {c e : Nat} (he : e < 64) : ec_cd (64 * c + e) = 16 * e + c := by
  unfold ec_cd
  rw [(ec_sq he).1, (ec_sq he).2]
theorem ed_Mn_le10 {nx : Nat → Nat → Option Nat} {t j s : Nat} (hj : j ≤ 10) : ed_Mn nx (ed_dl t) j s < 2 ^ 31 := by
  have s2 := ed_Mn_le (nx := nx) (B := ed_dl t) (c := 1) (fun q => ed_dl_le t q) j s
  have s4 : 4 ^ j ≤ 4 ^ 10 := Nat.pow_le_pow_right (by decide) hj
  rw [Nat.mul_one] at s2
  exact Nat.lt_of_le_of_lt (Nat.le_trans s2 s4) (by decide)
theorem ed_l0 {x : Nat} (h : x < 2 ^ 31) : lN x = 0 ↔ x = 0 := lN_eq (b := 0) h (by omega)
/-- how many flights of n steps end there -/
def ed_cm (w : eb_Wo) (t n : Nat) : Nat := ed_Mn (ed_nxb w (-1)) (ed_dl t) n (64 * w.now.b + w.now.e)
theorem ed_Mn_cg {nx nx' : Nat → Nat → Option Nat} {N : Nat} {B : Nat → Nat} (hx : ∀ s y, s < N → nx s y = nx' s y) (hl : ∀ s y m, s < N → nx' s y = some m → m < N) : ∀ (j s : Nat), s < N → ed_Mn nx B j s = ed_Mn nx' B j s := by
  intro j
  induction j with
  | zero => intro s _; rfl
  | succ j ih =>
    intro s hs
    have key : ∀ y, ed_M nx (ed_Mn nx B j) s y = ed_M nx' (ed_Mn nx' B j) s y := by
      intro y
      induction y with
      | zero => rfl
      | succ y ihy =>
        rw [ed_Ms, ed_Ms, ihy, hx s y hs]
        congr 1
        cases hn : nx' s y with
        | none => rfl
        | some t => exact ih t (hl s y t hs hn)
    exact key 4
theorem ed_nxs_f {w : eb_Wo} {s y : Nat} : ed_nxs w.va w.now w.now.D false s y = ec_g w.va w.now w.now.D s y := by
  unfold ed_nxs
  cases ec_g w.va w.now w.now.D s y with
  | none => rfl
  | some m => rfl
/-- 28: came -/
theorem c_came (k : Nat) (h : eb_H) (v1 v2 v3 : Int32) (inv : eb_Inv L xs k h) : eb_PrL 122 251 [.int v1, .int v2, .int v3] (eb_Inv L xs (k + 1)) h := by
  refine eb_prL inv (fun w ok => ?_)
  have r10 := ok.va.RW.2.2.2.2.2.2.2.2.2.1
  obtain ⟨n1, n2, n3, n4, n5, n6, n7⟩ := ok.now.N ok.va
  have m2 : (-2 : Int32).toInt64 = -2 := by decide
  have m3 : (-3 : Int32).toInt64 = -3 := by decide
  by_cases hC : ec_okC w v2
  · by_cases hM : ed_okM v1 v3
    · obtain ⟨n, c, e, ⟨hn, rfl⟩, ⟨hc, rfl⟩, ⟨he, rfl⟩⟩ := ed_numm hC hM
      refine ⟨lN (ed_cm w (64 * c + e) n), w, ok, by omega, eb_XS.of (fun h ko p Q q => ?_), eb_MS.of (fun h g ko eg kog p Q q => ?_)⟩
      · refine T_X10_came (d := 1297) _ _ _ ko (C_cm (d := 1297) p ok _ _ _ ko (fun _ _ => ⟨_, rfl, ko, fun _ => ?_, fun z => absurd rfl z⟩) (fun _ z => absurd hM z) (fun z => absurd hC z))
        obtain ⟨v, ev, pv⟩ := p.va
        obtain ⟨am, h1, h2⟩ := ed_fyc ok 0 (Or.inl rfl) false n (by omega)
        refine ⟨v, ev, pv.1.1, C_fa (d := 1292) p ko ok n (by omega) 0 false (by decide) v ev (fun h' r ff hr hJ => ⟨rfl, ff.1, ?_⟩)⟩
        rw [ed_code, eb_cln (n := 16 * e + c) (by omega)]
        refine ⟨fun z => absurd ⟨nI_pos (by omega), nI_ge (a := 16 * e + c) (b := 1024) (by omega) (by omega)⟩ z, fun _ => ⟨r, hr.1, hr.2.1, by rw [hr.2.2]; exact vp_in_nI (by omega) (by omega), ?_⟩⟩
        rw [hJ _ (by omega), (h1 _ (show 16 * e + c < 1024 by omega)).1]
        have ea : am (16 * e + c) = ed_cm w (64 * c + e) n := by
          have x1 := h2 (ed_dl (64 * c + e))
          have x2 : ec_sum (fun q => am q * ed_dl (64 * c + e) (ed_sd q)) 1024 = ec_sum (fun q => (if q = 16 * e + c then 1 else 0) * am q) 1024 := ec_sum_cg 1024 (fun q hq => by
            show am q * (if ed_sd q = 64 * c + e then 1 else 0) = (if q = 16 * e + c then 1 else 0) * am q
            by_cases z : q = 16 * e + c
            · rw [if_pos z, if_pos (by rw [z, ← ed_codeq he, ed_sd_cd (by omega)]), Nat.mul_one, Nat.one_mul]
            · rw [if_neg z, if_neg (fun u => z (by rw [← ed_codeq he, ← u, ed_cd_sd hq])), Nat.mul_zero, Nat.zero_mul])
          rw [x2, ed_sum_dl 1024, if_pos (by omega)] at x1
          rw [x1]
          exact ed_Mn_cg (N := 64 * (w.va.R * w.va.W)) (fun s y hs => by rw [ed_nxs_f, ed_nxb_c ok (ed_nm1 ok) hs]) (fun s y m hs g => ed_nxb_lt ok hs g) n _ (by omega)
        rw [ea]
        exact q h' ff.fx (ff.px p)
      · refine T_X11_came (d := 1298) _ _ _ ko ?_
        rw [← eg]
        refine M_cm (d := 1296) p ok _ _ _ kog (fun _ _ => ⟨_, rfl, kog, fun _ => ?_, fun z => absurd rfl z⟩) (fun _ z => absurd hM z) (fun z => absurd hC z)
        exact M_lc (d := 1294) p ok kog n (by omega) c e hc he (-1) (fun g' F th sT => ⟨_, rfl, F.ko kog, q g' (F.fm kog) (F.pm p)⟩)
    · refine ⟨-3, w, ok, by omega, eb_XS.of (fun h ko p Q q => ?_), eb_MS.of (fun h g ko eg kog p Q q => ?_)⟩
      · refine T_X10_came (d := 1297) _ _ _ ko (C_cm (d := 1297) p ok _ _ _ ko (fun _ z => absurd z hM) (fun _ _ => ⟨_, rfl, ko, fun z => absurd z (by decide), fun _ => ?_⟩) (fun z => absurd hC z))
        rw [m3]
        exact q h (eb_fx.rfl ko) p
      · refine T_X11_came (d := 1298) _ _ _ ko ?_
        rw [← eg]
        refine M_cm (d := 1296) p ok _ _ _ kog (fun _ z => absurd z hM) (fun _ _ => ⟨_, rfl, kog, fun z => absurd z (by decide), fun _ => ?_⟩) (fun z => absurd hC z)
        rw [m3]
        exact q g (eb_fm.rfl kog) p
  · refine ⟨-2, w, ok, by omega, eb_XS.of (fun h ko p Q q => ?_), eb_MS.of (fun h g ko eg kog p Q q => ?_)⟩
    · refine T_X10_came (d := 1297) _ _ _ ko (C_cm (d := 1297) p ok _ _ _ ko (fun z _ => absurd z hC) (fun z _ => absurd z hC) (fun _ => ⟨_, rfl, ko, fun z => absurd z (by decide), fun _ => ?_⟩))
      rw [m2]
      exact q h (eb_fx.rfl ko) p
    · refine T_X11_came (d := 1298) _ _ _ ko ?_
      rw [← eg]
      refine M_cm (d := 1296) p ok _ _ _ kog (fun z _ => absurd z hC) (fun z _ => absurd z hC) (fun _ => ⟨_, rfl, kog, fun z => absurd z (by decide), fun _ => ?_⟩)
      rw [m2]
      exact q g (eb_fm.rfl kog) p
end EBCAME
