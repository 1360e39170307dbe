section EBKINDS
variable {L : Nat} {xs : Nat → Int32}
def ec_ors (f : Nat → Bool) : Nat → Nat → Int32 → Int32
  | 0, _, a => a
  | m + 1, j, a => ec_ors f m (j + 1) (if f j = true then a ||| nI (2 ^ j) else a)
theorem ec_ors_s {f : Nat → Bool} {m j : Nat} {a : Int32} : ec_ors f (m + 1) j a = ec_ors f m (j + 1) (if f j = true then a ||| nI (2 ^ j) else a) := rfl
theorem ec_set_self (s : eb_St) (k : Nat) : ec_set s k (s k) = s := by
  funext j
  unfold ec_set
  split
  · rename_i h; rw [h]
  · rfl
theorem PM.tmp {w : eb_Wo} {h g : eb_H} (p : PM w h) (ok : eb_okW w) (F : ec_fr (fun c => ec_mw c ∨ c = s_m_all ∨ c = s_m_was) h g) (k : Nat) (hk : k < 21) (a : ∀ q, q ≠ 31 + ec_po k → eb_I g s_m_all q = eb_I h s_m_all q) (v : Int32) : PM (w.setNP (ec_set w.now k v) w.past) (eb_sI g s_m_all (31 + ec_po k) v) := by
  have hp : ec_po k < 21 := by
    unfold ec_po
    split
    · omega
    · split
      · omega
      · split <;> omega
  refine p.now1 ok _ (F.sI (Or.inr (Or.inl rfl))) (fun q hq => ?_) ?_
  · rw [eb_I_sI, if_neg (by omega)]; exact a q (by omega)
  · rw [PMS_rw]
    intro q hq
    rw [eb_I_sI, ec_rw_set hk hq]
    by_cases e : q = ec_po k
    · rw [if_pos (by omega), if_pos e]
    · rw [if_neg (by omega), if_neg e, a _ (by omega)]
      exact PMS_rw.mp p.now q hq
theorem PM.untmp {w : eb_Wo} {h g : eb_H} (p : PM w h) (ok : eb_okW w) (F : ec_fr (fun c => ec_mw c ∨ c = s_m_all ∨ c = s_m_was) h g) (k : Nat) (hk : k < 21) (a : ∀ q, q ≠ 31 + ec_po k → eb_I g s_m_all q = eb_I h s_m_all q) : PM w (eb_sI g s_m_all (31 + ec_po k) (w.now k)) := by
  have := p.tmp ok F k hk a (w.now k)
  rw [ec_set_self] at this
  exact this
theorem ec_okW_now {w : eb_Wo} (ok : eb_okW w) (s : eb_St) (os : eb_okS w.va s) : eb_okW (w.setNP s w.past) := ok.setNP s w.past os ok.len (fun i hi => by
  have := ok.past i hi
  rw [ec_getD hi w.now ec_s0] at this
  exact this)
def ec_cf (V : eb_Va) (s : eb_St) (t : eb_Ty) (x : Nat) : Bool := decide (ec_fo V s (ec_fv t) t.size.toInt.toNat 0 s.b s.e = some x)
theorem ec_cf0 {V : eb_Va} {s : eb_St} {t : eb_Ty} {x : Nat} {y : Int32} (h : y = 0 ↔ ¬ ec_fo V s (ec_fv t) t.size.toInt.toNat 0 s.b s.e = some x) : (y = 0 ↔ ¬ ec_cf V s t x = true) := by
  unfold ec_cf
  rw [h, decide_eq_true_iff]
theorem ec_ps {k : Nat} (v : Int32) {s : eb_St} (hk : 3 ≤ k) : (ec_set s k v).b = s.b ∧ (ec_set s k v).e = s.e := by
  unfold eb_St.b eb_St.e eb_St.bat eb_St.echoes ec_set
  rw [if_neg (by omega), if_neg (by omega)]
  exact ⟨rfl, rfl⟩
theorem ec_okk {V : eb_Va} {s : eb_St} (os : eb_okS V s) (c j : Nat) (hj : j ≤ 6) : eb_okS V (ec_set s (5 + c) (nI j)) :=
  ec_okS_set os _ _ (fun z => absurd z (by omega)) (fun z => absurd z (by omega)) (fun z => absurd z (by omega)) (fun z => absurd z (by omega)) (fun _ => by rw [nI_toInt (by omega)]; omega)
theorem ec_okw {V : eb_Va} {s : eb_St} (os : eb_okS V s) (j : Nat) (hj : j ≤ 9) : eb_okS V (ec_set s 4 (nI j)) :=
  ec_okS_set os _ _ (fun z => absurd z (by omega)) (fun z => absurd z (by omega)) (fun z => absurd z (by omega)) (fun _ => by rw [nI_toInt (by omega)]; omega) (fun z => absurd z (by omega))
/-- 29: kinds -/
theorem c_kinds (k : Nat) (h : eb_H) (v1 v2 v3 : Int32) (inv : eb_Inv L xs k h) : eb_Pr 125 256 [.int v1, .int v2, .int v3] (eb_Inv L xs (k + 1)) h := by
  refine eb_pr inv (fun w ok => ?_)
  obtain ⟨r1, r2, r3, r4, r5, r6, r7, r8, r9, r10, _⟩ := ok.va.RW
  obtain ⟨n1, n2, n3, n4, n5, n6, n7⟩ := ok.now.N ok.va
  by_cases hx : 0 ≤ v1.toInt ∧ v1.toInt < (4 : Nat)
  · by_cases hy : 0 ≤ v2.toInt ∧ v2.toInt < (w.va.R * w.va.W : Nat)
    · obtain ⟨i, hi, rfl⟩ := ec_in hx
      obtain ⟨c, hc, rfl⟩ := ec_in hy
      have e34 : (34 : Int32) + nI c = nI (34 + c) := ec_9 34 c
      have po : 31 + ec_po (5 + c) = 34 + c := by unfold ec_po; rw [if_neg (by omega), if_neg (by omega), if_neg (by omega)]; omega
      have nh : ∀ (h : eb_H) (p : PX w h) (ko : eb_KO h) (Q : Option Value → eb_H → Prop) (y : Int32), (∀ h', eb_fx h h' → PX w h' → Q (some (.int y)) h') → (w.tray i = none → y = -6) → (∀ t, w.tray i = some t → ¬ ec_rf t v3 = 0 → y = ec_rf t v3) → (∀ t, w.tray i = some t → ec_rf t v3 = 0 → eb_Sn 1299 m_X10_kinds h 47 [(0, .ref s_EB), (1, .int (nI i)), (2, .int (nI c)), (3, .int v3), (5, .int 0), (6, .int 0)] [] h Q) → eb_Ct 1299 125 [.ref s_EB, .int (nI i), .int (nI c), .int v3] h Q := by
        intro h p ko Q y q y0 y1 y2
        obtain ⟨v, ev, pv⟩ := p.va
        obtain ⟨u1, u2, u3, u4, u5⟩ := eb_trs ko hi
        refine T_X10_kinds (d := 1298) _ _ _ ko ⟨fun z => absurd z (ec_tray4.mpr hx), fun _ => ⟨v, ev, pv.1.1, fun _ => ⟨vp_in_nI hi (by omega), _, by rw [eb_cln (by omega)]; exact u1, ?_⟩, fun z => absurd ((X_has pv ok.va _).mpr hy) z⟩⟩
        refine C_rf (d := 1297) p ok ko i hi v3 (fun z => ⟨_, rfl, ko, fun z' => absurd z' (by decide), fun _ => ?_⟩) (fun t ht => ⟨_, rfl, ko, fun z => y2 t ht z, fun z => ?_⟩)
        · have := q h (eb_fx.rfl ko) p
          rw [y0 z] at this
          exact this
        · have := q h (eb_fx.rfl ko) p
          rw [y1 t ht z] at this
          exact this
      have nm : ∀ (h g : eb_H) (p : PM w g) (ko : eb_KO h) (eg : g = eb_sI h s_MO 0 0) (kog : eb_KO g) (Q : Option Value → eb_H → Prop) (y : Int32), (∀ h', eb_fm g h' → PM w h' → Q (some (.int y)) h') → (w.tray i = none → y = -6) → (∀ t, w.tray i = some t → ¬ ec_rf t v3 = 0 → y = ec_rf t v3) → (∀ t, w.tray i = some t → ec_rf t v3 = 0 → eb_Sn 1299 m_X11_kinds h 62 [(0, .ref s_MO), (1, .int (nI i)), (2, .int (nI c)), (3, .int v3), (5, .int (w.now (5 + c))), (6, .int 0), (7, .int 0)] [] g Q) → eb_Ct 1299 256 [.ref s_MO, .int (nI i), .int (nI c), .int v3] h Q := by
        intro h g p ko eg kog Q y q y0 y1 y2
        refine T_X11_kinds (d := 1297) _ _ _ ko ?_
        rw [← eg, e34, eb_cln (n := 34 + c) (by omega)]
        refine ⟨fun z => absurd (ec_tray4m.mpr hx) z, fun _ => ⟨fun _ => ?_, fun z => absurd ((M_has p.va ok.va _).mpr hy) z⟩⟩
        refine M_rf (d := 1296) p ok kog i hi v3 (fun z => ⟨_, rfl, kog, fun z' => absurd z' (by decide), fun _ => ?_⟩) (fun t ht => ⟨_, rfl, kog, fun z => ⟨vp_in_nI (by omega) (by omega), ?_⟩, fun z => ?_⟩)
        · have := q g (eb_fm.rfl kog) p
          rw [y0 z] at this
          exact this
        · rw [show eb_I g s_m_all (34 + c) = w.now (5 + c) from p.now.2.2.2.1 c (by omega)]
          exact y2 t ht z
        · have := q g (eb_fm.rfl kog) p
          rw [y1 t ht z] at this
          exact this
      cases ht : w.tray i with
      | none =>
        refine ⟨-6, w, ok, by omega, eb_XS.of (fun h ko p Q q => nh h p ko Q _ q (fun _ => rfl) (fun t z => by rw [ht] at z; cases z) (fun t z => by rw [ht] at z; cases z)), eb_MS.of (fun h g ko eg kog p Q q => nm h g p ko eg kog Q _ q (fun _ => rfl) (fun t z => by rw [ht] at z; cases z) (fun t z => by rw [ht] at z; cases z))⟩
      | some t =>
        by_cases rf : ec_rf t v3 = 0
        · obtain ⟨gd, x, hx64, rfl⟩ := ec_rf_0 rf
          refine ⟨ec_ors (fun j => ec_cf w.va (ec_set w.now (5 + c) (nI j)) t x) 7 0 0, w, ok, by omega, eb_XS.of (fun h ko p Q q => nh h p ko Q _ q (fun z => by rw [ht] at z; cases z) (fun t' z y => by rw [ht] at z; cases z; exact absurd rf y) (fun t' _ _ => ?_)), eb_MS.of (fun h g ko eg kog p Q q => nm h g p ko eg kog Q _ q (fun z => by rw [ht] at z; cases z) (fun t' z y => by rw [ht] at z; cases z; exact absurd rf y) (fun t' _ _ => ?_))⟩
          · have key : ∀ (m j : Nat) (a : Int32) (g : eb_H), j + m = 7 → ec_gf ec_sc h g → (∀ g', ec_gf ec_sc h g' → Q (some (.int (ec_ors (fun j => ec_cf w.va (ec_set w.now (5 + c) (nI j)) t x) m j a))) g') → eb_Sn 1299 m_X10_kinds h 47 [(0, .ref s_EB), (1, .int (nI i)), (2, .int (nI c)), (3, .int (nI x)), (5, .int a), (6, .int (nI j))] [] g Q := by
              intro m
              induction m with
              | zero =>
                intro j a g hj G w1
                refine b_X10_kinds_47 (d := 1298) _ _ _ _ _ (G.ko ko) ⟨fun _ => w1 g G, fun z => ?_⟩
                exfalso
                apply z
                exact nI_lt (a := 6) (by omega) (by omega)
              | succ m ih =>
                intro j a g hj G w1
                have kog := G.ko ko
                have pg := G.px p ec_sc_W
                rw [ec_ors_s] at w1
                refine b_X10_kinds_47 (d := 1298) _ _ _ _ _ kog ⟨fun z => ?_, fun _ => ?_⟩
                · exfalso
                  exact nI_nlt (a := 6) (b := j) (by omega) (by omega) z
                · refine C_trial (d := 1297) pg kog (fun h2 pt G2 => ⟨rfl, G2.ko kog, ?_⟩)
                  refine T_X6_putThing (d := 1298) s_trial _ _ ec_trial.1.1 (G2.ko kog) ⟨fun z => absurd z (nI_pos (by omega)), fun _ => ⟨_, pt.2.2.2.2.2.1, ec_trial.1.th.1, fun z => ?_, fun _ => ⟨?_, rfl, G2.ko kog, vp_in_nI hi (by omega), s_trays_0 + 1048576 * i, ?_, ?_⟩⟩⟩
                  · exfalso
                    rw [ec_trial.1.th.2] at z
                    exact nI_ge (a := c) (b := 16) (by omega) (by omega) z
                  · rw [ec_trial.1.th.2]; exact vp_in_nI (by omega) (by omega)
                  · rw [eb_cln (n := i) (by omega)]; exact (eb_trs (G2.ko kog) hi).1
                  · rw [eb_cln (n := c) (by omega)]
                    have F3 : ec_fr (fun c => c = s_trial + 524807) h2 (eb_sI h2 (s_trial + 524807) c (nI j)) := ec_fr.rfl.sI rfl
                    have G3 : ec_gf ec_sc g (eb_sI h2 (s_trial + 524807) c (nI j)) := G2.trans (F3.gr.weak (fun c z => by rw [z]; exact ec_trial.2.2.1))
                    have ps3 : PXS (eb_sI h2 (s_trial + 524807) c (nI j)) s_trial (ec_set w.now (5 + c) (nI j)) := pt.setT _
                    have os3 := ec_okk ok.now c j (by omega)
                    have ko3 := G3.ko kog
                    generalize eb_sI h2 (s_trial + 524807) c (nI j) = h5 at G3 ps3 ko3 ⊢
                    refine T_X10_couldFly (d := 1297) _ _ (by unfold eb_kd s_trays_0; omega) ko3 ?_
                    refine C_cf (d := 1292) pg ok kog i hi t ht gd _ x hx64 t.size.toInt.toNat 0 h5 _ (Nat.zero_add _) ps3 os3 ec_sim.rfl G3 (fun h11 G11 y hy => ⟨y, rfl, G11.ko kog, fun z => ?_, fun z => ?_⟩)
                    · rw [nI_1]
                      refine ih (j + 1) _ h11 (by omega) (G.trans G11) (fun g' a => ?_)
                      have := w1 g' a
                      rw [if_neg ((ec_cf0 hy).mp z)] at this
                      exact this
                    · rw [ec_shl1 (by omega), nI_1]
                      refine ih (j + 1) _ h11 (by omega) (G.trans G11) (fun g' a => ?_)
                      have := w1 g' a
                      rw [if_pos (Classical.byContradiction fun u => z ((ec_cf0 hy).mpr u))] at this
                      exact this
            exact key 7 0 0 h (by omega) ec_gf.rfl (fun g' G => q g' (G.fx ko ec_sc_M) (G.px p ec_sc_W))
          · have key : ∀ (m j : Nat) (a : Int32) (g' : eb_H), j + m = 7 → ec_fr (fun c => ec_mw c ∨ c = s_m_all ∨ c = s_m_was) g g' → (∀ q, q ≠ 34 + c → eb_I g' s_m_all q = eb_I g s_m_all q) → (∀ g2, eb_fm g g2 → PM w g2 → Q (some (.int (ec_ors (fun j => ec_cf w.va (ec_set w.now (5 + c) (nI j)) t x) m j a))) g2) → eb_Sn 1299 m_X11_kinds h 62 [(0, .ref s_MO), (1, .int (nI i)), (2, .int (nI c)), (3, .int (nI x)), (5, .int (w.now (5 + c))), (6, .int a), (7, .int (nI j))] [] g' Q := by
              intro m
              induction m with
              | zero =>
                intro j a g' hj F o w1
                refine b_X11_kinds_62 (d := 1297) _ _ _ _ _ _ (F.ko kog) ?_
                rw [e34, eb_cln (n := 34 + c) (by omega)]
                refine ⟨fun _ => ⟨vp_in_nI (by omega) (by omega), ?_⟩, fun z => ?_⟩
                · have pu := p.untmp ok F (5 + c) (by omega) (by rw [po]; exact o)
                  rw [po] at pu
                  exact w1 _ ((F.sI (Or.inr (Or.inl rfl))).fm kog ec_mw3) pu
                · exfalso
                  apply z
                  exact nI_lt (a := 6) (by omega) (by omega)
              | succ m ih =>
                intro j a g' hj F o w1
                rw [ec_ors_s] at w1
                have pt := p.tmp ok F (5 + c) (by omega) (by rw [po]; exact o) (nI j)
                rw [po] at pt
                have F2 : ec_fr (fun c => ec_mw c ∨ c = s_m_all ∨ c = s_m_was) g (eb_sI g' s_m_all (34 + c) (nI j)) := F.sI (Or.inr (Or.inl rfl))
                have o2 : ∀ q, q ≠ 34 + c → eb_I (eb_sI g' s_m_all (34 + c) (nI j)) s_m_all q = eb_I g s_m_all q := fun q hq => by rw [eb_I_sI, if_neg hq]; exact o q hq
                refine b_X11_kinds_62 (d := 1297) _ _ _ _ _ _ (F.ko kog) ?_
                rw [e34, eb_cln (n := 34 + c) (by omega), ec_shl1 (by omega), nI_1]
                refine ⟨fun z => ?_, fun _ => ⟨vp_in_nI (by omega) (by omega), ?_⟩⟩
                · exfalso
                  exact nI_nlt (a := 6) (b := j) (by omega) (by omega) z
                · generalize eb_sI g' s_m_all (34 + c) (nI j) = g3 at pt F2 o2 ⊢
                  have os3 := ec_okk ok.now c j (by omega)
                  have ok3 := ec_okW_now ok _ os3
                  have bb := ec_ps (k := 5 + c) (nI j) (s := w.now) (by omega)
                  refine T_X11_isFlown (d := 1297) _ _ (F2.ko kog) ?_
                  rw [ec_stand pt.now ok3.va ok3.now]
                  refine M_cf (d := 1295) pt ok3 (F2.ko kog) i hi t ht gd x hx64 t.size.toInt.toNat 0 _ _ g3 (Nat.zero_add _) (by have := (ok3.now.N ok3.va).2.2.2.1; exact this) (by have := (ok3.now.N ok3.va).2.2.2.2.1; exact this) ec_fr.rfl (fun g4 F4 y hy => ⟨y, rfl, F4.ko (F2.ko kog), ?_⟩)
                  have hy' := ec_cf0 (V := w.va) (s := ec_set w.now (5 + c) (nI j)) hy
                  refine ih (j + 1) _ g4 (by omega) (F2.trans (F4.weak (fun c z => Or.inl z))) (fun q hq => ?_) (fun g2 b1 b2 => ?_)
                  · rw [F4.all]; exact o2 q hq
                  · have := w1 g2 b1 b2
                    by_cases z : y = 0
                    · rw [if_neg (hy'.mp z)] at this
                      rw [if_pos z, Int32.or_zero]
                      exact this
                    · rw [if_pos (Classical.byContradiction fun u => z (hy'.mpr u))] at this
                      rw [if_neg z]
                      exact this
            exact key 7 0 0 g (by omega) ec_fr.rfl (fun _ _ => rfl) q
        · exact ⟨ec_rf t v3, w, ok, by omega, eb_XS.of (fun h ko p Q q => nh h p ko Q _ q (fun z => by rw [ht] at z; cases z) (fun t' z _ => by rw [ht] at z; cases z; rfl) (fun t' z y => by rw [ht] at z; cases z; exact absurd y rf)), eb_MS.of (fun h g ko eg kog p Q q => nm h g p ko eg kog Q _ q (fun z => by rw [ht] at z; cases z) (fun t' z _ => by rw [ht] at z; cases z; rfl) (fun t' z y => by rw [ht] at z; cases z; exact absurd y rf))⟩
    · refine ⟨-2, w, ok, by omega, eb_XS.of (fun h ko p Q q => ?_), eb_MS.of (fun h g ko eg kog p Q q => ?_)⟩
      · obtain ⟨v, ev, pv⟩ := p.va
        exact T_X10_kinds (d := 1298) _ _ _ ko ⟨fun _ => q h (eb_fx.rfl ko) p, fun _ => ⟨v, ev, pv.1.1, fun z => absurd ((X_has pv ok.va _).mp z) hy, fun _ => q h (eb_fx.rfl ko) p⟩⟩
      · refine T_X11_kinds (d := 1297) _ _ _ ko ?_
        rw [← eg]
        exact ⟨fun _ => q g (eb_fm.rfl kog) p, fun _ => ⟨fun z => absurd ((M_has p.va ok.va _).mp z) hy, fun _ => q g (eb_fm.rfl kog) p⟩⟩
  · refine ⟨-2, w, ok, by omega, eb_XS.of (fun h ko p Q q => ?_), eb_MS.of (fun h g ko eg kog p Q q => ?_)⟩
    · exact T_X10_kinds (d := 1298) _ _ _ ko ⟨fun _ => q h (eb_fx.rfl ko) p, fun z => absurd (ec_tray4.mp z) hx⟩
    · refine T_X11_kinds (d := 1297) _ _ _ ko ?_
      rw [← eg]
      exact ⟨fun _ => q g (eb_fm.rfl kog) p, fun z => absurd (ec_tray4m.mp z) hx⟩
end EBKINDS
