section EBFORCE2
variable {L : Nat} {xs : Nat → Int32}
def ec_fwy (V : eb_Va) (s : eb_St) (hc E D c e : Nat) : Nat → Nat → Int32
  | 0, _ => -1
  | m + 1, j => if ec_hb V s hc E D c e j = true then nI j else ec_fwy V s hc E D c e m (j + 1)
theorem ec_fwy_s {V : eb_Va} {s : eb_St} {hc E D c e m j : Nat} : ec_fwy V s hc E D c e (m + 1) j = if ec_hb V s hc E D c e j = true then nI j else ec_fwy V s hc E D c e m (j + 1) := rfl
theorem ec_fwy_hr {V : eb_Va} {s : eb_St} {hc E D c e : Nat} : ∀ (m j : Nat), j + m ≤ 4 → (ec_fwy V s hc E D c e m j = -1 ↔ ¬ ec_hr V s hc E D c e m j = true)
  | 0, j, _ => ⟨fun _ => by unfold ec_hr; decide, fun _ => rfl⟩
  | m + 1, j, h => by
    have us : ec_hr V s hc E D c e (m + 1) j = (ec_hb V s hc E D c e j || ec_hr V s hc E D c e m (j + 1)) := rfl
    rw [ec_fwy_s, us]
    by_cases z : ec_hb V s hc E D c e j = true
    · rw [if_pos z, z, Bool.true_or]
      exact ⟨fun y => absurd y (ec_m1 (by omega)), fun y => absurd rfl y⟩
    · rw [if_neg z, ec_fwy_hr m (j + 1) (by omega)]
      have : ec_hb V s hc E D c e j = false := by
        cases hx : ec_hb V s hc E D c e j with
        | true => exact absurd hx z
        | false => rfl
      rw [this, Bool.false_or]
theorem X_hh {h : eb_H} {v : Nat} {V : eb_Va} (p : PXV h v V) (ok : eb_okV V) (x : Int32) : ((¬ (x < 0)) ∧ (¬ ((eb_I h v 4) ≤ x))) ↔ (0 ≤ x.toInt ∧ x.toInt < (V.houses : Nat)) := by
  have := ok.houses
  rw [p.2.2.2.2.2.1, eb_i32, eb_i32e, eb_z32, nI_toInt (by omega)]
  omega
theorem M_hh {h : eb_H} {V : eb_Va} (p : PMV h 0 V) (ok : eb_okV V) (x : Int32) : ((¬ (x.toInt64 < 0)) ∧ (¬ ((((eb_I h s_m_all (4 : Int32).toNatClampNeg) - 1).toInt64) < x.toInt64))) ↔ (0 ≤ x.toInt ∧ x.toInt < (V.houses : Nat)) := by
  have := ok.houses
  have e4 : (eb_I h s_m_all (4 : Int32).toNatClampNeg - 1).toInt = (V.houses : Int) - 1 := by
    have q : eb_I h s_m_all (4 : Int32).toNatClampNeg = nI V.houses := p.2.2.2.2.1
    rw [q]
    exact pk_sub_toInt (a := V.houses) (b := 1) (by omega) (by omega)
  rw [eb_l64a, eb_l64, eb_z64, e4]
  omega
theorem ec_hcn {V : eb_Va} (ok : eb_okV V) {hh : Nat} (h : hh < V.houses) : V.hc hh = nI (V.hc hh).toInt.toNat ∧ (V.hc hh).toInt.toNat < V.R * V.W := by
  obtain ⟨a, b⟩ := ok.hc hh h
  obtain ⟨_, _, _, _, _, _, _, _, _, _, r11, r12, r13⟩ := ok.RW
  refine ⟨eb_ofn a, ?_⟩
  omega
theorem C_isAt {d : Nat} {h : eb_H} {Q : Option Value → eb_H → Prop} {v a : Nat} {V : eb_Va} {s : eb_St} (ev : eb_R h s_EB 2 = some v) (p : PXV h v V) (ps : PXS h a s) (ia : eb_isS a) (ok : eb_okV V) (os : eb_okS V s) (hh hc E : Nat) (hh4 : hh < V.houses) (ehc : V.hc hh = nI hc) (hhc : hc < V.R * V.W) (hE : E < 64) (ko : eb_KO h) (w : ∀ y : Int32, (y = 0 ↔ ¬ ec_th hc E s.b s.e = true) → Q (some (.int y)) h) : eb_Ct (d + 1) 153 [.ref s_EB, .ref a, .int (nI hh), .int (nI E)] h Q := by
  obtain ⟨n1, n2, n3, n4, n5, n6, n7⟩ := os.N ok
  obtain ⟨r1, r2, r3, r4, r5, r6, r7, r8, r9, r10, _⟩ := ok.RW
  obtain ⟨p0, p1, p2, p3, p4, p5, p6, _⟩ := p
  obtain ⟨l1, l2, l3, l4⟩ := eb_va_ln p0.1 p0.2.1
  have h4 := ok.houses
  refine T_X10_isAt a _ _ ia.1 ko ⟨v, ev, p0.1, fun z => absurd z (nI_pos (by omega)), fun _ => ⟨_, p6.1, l2, fun z => ?_, fun _ => ⟨?_, w _ ?_⟩⟩⟩
  · exfalso
    rw [l1] at z
    exact nI_ge (a := hh) (b := 4) (by omega) (by omega) z
  · rw [l1]; exact vp_in_nI (by omega) (by omega)
  · rw [eb_q0, eb_cln (by omega), p6.2 hh hh4, ps.1, ps.2.1, n1, n2, ehc, nI_eq (by omega) (by omega), ec_and (by omega) (by omega), nI_eq (by have := ec_and_lt s.e hE; omega) (by omega), ec_th_iff]
theorem C_fs {d : Nat} {h : eb_H} {Q : Option Value → eb_H → Prop} {w : eb_Wo} (p : PX w h) (ok : eb_okW w) (ko : eb_KO h) (hh hc E : Nat) (hh4 : hh < w.va.houses) (ehc : w.va.hc hh = nI hc) (hhc : hc < w.va.R * w.va.W) (hE : E < 64) (q : ∀ g', ec_gf ec_sc h g' → Q (some (.int (ec_fwy w.va w.now hc E w.now.D w.now.b w.now.e 4 0))) g') : eb_Ct (d + 6) 154 [.ref s_EB, .int (nI hh), .int (nI E)] h Q := by
  obtain ⟨n1, n2, n3, n4, n5, n6, n7⟩ := ok.now.N ok.va
  obtain ⟨r1, r2, r3, r4, r5, r6, r7, r8, r9, r10, _⟩ := ok.va.RW
  have key : ∀ (m j : Nat) (g : eb_H), j + m = 4 → ec_gf ec_sc h g → (∀ g', ec_gf ec_sc h g' → Q (some (.int (ec_fwy w.va w.now hc E w.now.D w.now.b w.now.e m j))) g') → eb_Sn (d + 6) m_X10_forcingStep h 2 [(0, .ref s_EB), (1, .int (nI hh)), (2, .int (nI E)), (3, .int (nI j))] [] g Q := by
    intro m
    induction m with
    | zero =>
      intro j g hj G w1
      exact b_X10_forcingStep_2 (d := d + 5) _ _ _ (G.ko ko) ⟨fun _ => w1 g G, fun z => absurd (nI_le (a := 4) (by omega) (by omega)) z⟩
    | succ m ih =>
      intro j g hj G w1
      rw [ec_fwy_s] at w1
      have kog := G.ko ko
      have pg := G.px p ec_sc_W
      refine b_X10_forcingStep_2 (d := d + 5) _ _ _ kog ⟨fun z => absurd z (nI_ge (a := j) (b := 4) (by omega) (by omega)), fun _ => ?_⟩
      rw [nI_1]
      refine C_tms (d := d) pg ok kog j (by omega) (fun h' G' y u => ⟨_, rfl, G'.ko kog, fun _ => ?_, fun z => absurd u z⟩) (fun h' to G' hn wz ps' tl => ⟨_, rfl, G'.ko kog, fun z => absurd z (nI_pos (by omega)), fun _ => ?_⟩)
      · have hf : ¬ ec_hb w.va w.now hc E w.now.D w.now.b w.now.e j = true := by
          unfold ec_hb
          simp [y]
        rw [if_neg hf] at w1
        exact ih (j + 1) h' (by omega) (G.trans G') w1
      · obtain ⟨v, ev, pv⟩ := pg.va
        have hto := ec_nb_lt n4 r6 hn
        have hne := ec_ne_lt (V := w.va) (s := w.now) (c := w.now.b) (e := w.now.e) (to := to) n5 (n7 to (by omega)).2
        have eb' : (ec_fl w.va w.now to).b = to := by
          show (nI to).toInt.toNat = to
          rw [nI_toInt (by omega)]; rfl
        have ee' : (ec_fl w.va w.now to).e = ec_ne w.va w.now w.now.b w.now.e to := by
          show (nI (ec_ne w.va w.now w.now.b w.now.e to)).toInt.toNat = _
          rw [nI_toInt (by omega)]; rfl
        have hb : ec_hb w.va w.now hc E w.now.D w.now.b w.now.e j = ec_th hc E to (ec_ne w.va w.now w.now.b w.now.e to) := by
          unfold ec_hb
          rw [hn]
          simp [wz]
        refine C_isAt (d := d + 4) (by rw [G'.R]; exact ev) (pv.gr G' ec_sc_V) ps' ec_trial.1 ok.va (ec_fl_ok ok.va ok.now hto) hh hc E hh4 ehc hhc hE (G'.ko kog) (fun y hy => ⟨y, rfl, G'.ko kog, fun z => ?_, fun z => ?_⟩)
        · rw [eb', ee', ← hb] at hy
          rw [if_neg (hy.mp z)] at w1
          exact ih (j + 1) h' (by omega) (G.trans G') w1
        · rw [eb', ee', ← hb] at hy
          rw [if_pos (Classical.byContradiction fun u => z (hy.mpr u))] at w1
          exact w1 h' (G.trans G')
  exact T_X10_forcingStep (d := d + 5) _ _ ko (key 4 0 h (by omega) ec_gf.rfl q)
theorem M_fi {d : Nat} {g : eb_H} {Q : Option Value → eb_H → Prop} {w : eb_Wo} (p : PM w g) (ok : eb_okW w) (kog : eb_KO g) (hh hc E : Nat) (hh4 : hh < w.va.houses) (ehc : w.va.hc hh = nI hc) (hhc : hc < w.va.R * w.va.W) (hE : E < 64) (q : ∀ g', ec_fr ec_mw g g' → Q (some (.int (if ec_th hc E w.now.b w.now.e = true then 0 else if ec_hr w.va w.now hc E w.now.D w.now.b w.now.e 4 0 = true then 1 else -1))) g') : eb_Ct (d + 30) 265 [.ref s_MO, .int (nI hh), .int (nI E)] g Q := by
  obtain ⟨n1, n2, n3, n4, n5, n6, n7⟩ := ok.now.N ok.va
  have key : ∀ (m j : Nat) (g' : eb_H), j + m = 4 → ec_fr ec_mw g g' → (1 ≤ j → ¬ ec_th hc E w.now.b w.now.e = true) → (2 ≤ j → ¬ ec_hr w.va w.now hc E w.now.D w.now.b w.now.e 4 0 = true) → eb_Sn (d + 30) m_X11_forcedIn g 2 [(0, .ref s_MO), (1, .int (nI hh)), (2, .int (nI E)), (3, .int (nI j))] [] g' Q := by
    intro m
    induction m with
    | zero =>
      intro j g' hj F a b
      refine b_X11_forcedIn_2 (d := d + 29) _ _ _ (F.ko kog) ⟨fun _ => ?_, fun z => absurd (nI_lt (a := 3) (by omega) (by omega)) z⟩
      have := q g' F
      rw [if_neg (a (by omega)), if_neg (b (by omega))] at this
      exact this
    | succ m ih =>
      intro j g' hj F a b
      have pg := p.mw F
      refine b_X11_forcedIn_2 (d := d + 29) _ _ _ (F.ko kog) ⟨fun z => absurd z (nI_nlt (a := 3) (b := j) (by omega) (by omega)), fun _ => ?_⟩
      have e50 : eb_I g' s_m_all (50 : Int32).toNatClampNeg = nI w.now.D := pg.now.2.2.2.2.1.trans n3
      rw [ec_stand pg.now ok.va ok.now, e50, nI_1, show d + 29 = (d + 23 - 4 * j) + 6 + 4 * j by omega]
      refine (M_force ok hh hc E hh4 ehc hhc hE j (by omega)).1 _ g' _ _ _ _ pg (F.ko kog) n4 n5 n6 (fun g2 F2 y y01 hy => ⟨y, rfl, F2.ko (F.ko kog), fun z => ?_, fun z => ?_⟩)
      · have hz := hy.mp z
        have := ih (j + 1) g2 (by omega) (F.trans F2) (fun _ u => hz (Or.inl u)) (fun u v => hz (Or.inr ⟨by omega, v⟩))
        rw [show d + 23 - 4 * j + 6 + 4 * j + 1 = d + 30 by omega]
        exact this
      · have hz : ec_th hc E w.now.b w.now.e = true ∨ 1 ≤ j ∧ ec_hr w.va w.now hc E w.now.D w.now.b w.now.e 4 0 = true := Classical.byContradiction fun u => z (hy.mpr u)
        have := q g2 (F.trans F2)
        by_cases t : ec_th hc E w.now.b w.now.e = true
        · have j0 : j = 0 := by
            refine Classical.byContradiction fun u => a (by omega) t
          rw [if_pos t] at this
          rw [j0]
          exact this
        · rcases hz with hz | hz
          · exact absurd hz t
          · have j1 : j = 1 := by
              refine Classical.byContradiction fun u => b (by omega) hz.2
            rw [if_neg t, if_pos hz.2] at this
            rw [j1]
            exact this
  exact T_X11_forcedIn (d := d + 29) _ _ kog (key 4 0 g (by omega) ec_fr.rfl (fun z => absurd z (by omega)) (fun z => absurd z (by omega)))
theorem ec_e64 {x : Int32} : (¬ ((x < 0) ∨ (¬ (x < (64 : Int32))))) ↔ (0 ≤ x.toInt ∧ x.toInt < (64 : Nat)) := by rw [eb_i32, eb_i32, eb_z32, show (64 : Int32).toInt = 64 by decide]; omega
theorem M_nf {d : Nat} {g : eb_H} {Q : Option Value → eb_H → Prop} {w : eb_Wo} (p : PM w g) (ok : eb_okW w) (kog : eb_KO g) (x1 x2 : Int32) (w0 : ¬ (0 ≤ x1.toInt ∧ x1.toInt < (w.va.houses : Nat)) → Q (some (.int (-2))) g) (w1 : (0 ≤ x1.toInt ∧ x1.toInt < (w.va.houses : Nat)) → ¬ (0 ≤ x2.toInt ∧ x2.toInt < (64 : Nat)) → Q (some (.int (-3))) g) (w2 : (0 ≤ x1.toInt ∧ x1.toInt < (w.va.houses : Nat)) → (0 ≤ x2.toInt ∧ x2.toInt < (64 : Nat)) → Q (some (.int 0)) g) : eb_Ct (d + 2) 266 [.ref s_MO, .int x1, .int x2] g Q := by
  refine T_X11_noForce _ _ kog ?_
  by_cases a : 0 ≤ x1.toInt ∧ x1.toInt < (w.va.houses : Nat)
  · rw [if_pos ((M_hh p.va ok.va x1).mpr a)]
    by_cases b : 0 ≤ x2.toInt ∧ x2.toInt < (64 : Nat)
    · rw [if_neg (by rw [eb_l64a, eb_z64]; omega), if_neg (by rw [eb_l64b, show (63 : Int64).toInt = 63 by decide]; omega)]
      exact w2 a b
    · by_cases c : x2.toInt64 < 0
      · rw [if_pos c]; exact w1 a b
      · rw [if_neg c, if_pos (by rw [eb_l64a, eb_z64] at c; rw [eb_l64b, show (63 : Int64).toInt = 63 by decide]; omega)]
        exact w1 a b
  · rw [if_neg (fun z => a ((M_hh p.va ok.va x1).mp z))]
    exact w0 a
/-- 32: forces -/
theorem c_forces (k : Nat) (h : eb_H) (v1 v2 : Int32) (inv : eb_Inv L xs k h) : eb_Pr 128 267 [.int v1, .int v2] (eb_Inv L xs (k + 1)) h := by
  refine eb_pr inv (fun w ok => ?_)
  by_cases hx : 0 ≤ v1.toInt ∧ v1.toInt < (w.va.houses : Nat)
  · by_cases hy : 0 ≤ v2.toInt ∧ v2.toInt < (64 : Nat)
    · obtain ⟨hh, hh4, rfl⟩ := ec_in hx
      obtain ⟨E, hE, rfl⟩ := ec_in hy
      obtain ⟨ehc, hhc⟩ := ec_hcn ok.va hh4
      refine ⟨if ec_th (w.va.hc hh).toInt.toNat E w.now.b w.now.e = true then 0 else if ec_hr w.va w.now (w.va.hc hh).toInt.toNat E w.now.D w.now.b w.now.e 4 0 = true then 1 else -1, w, ok, by omega, eb_XS.of (fun h ko p Q q => ?_), eb_MS.of (fun h g ko eg kog p Q q => ?_)⟩
      · obtain ⟨v, ev, pv⟩ := p.va
        refine T_X10_forces (d := 1298) _ _ ko ⟨v, ev, pv.1.1, fun _ => ⟨fun _ => ?_, fun z => absurd z (ec_e64.mpr hy)⟩, fun z => absurd ((X_hh pv ok.va _).mpr hx) z⟩
        refine C_isAt (d := 1297) ev pv p.now ec_nowS.1 ok.va ok.now hh _ E hh4 ehc hhc hE ko (fun y hy' => ⟨y, rfl, ko, fun z => ?_, fun z => ?_⟩)
        · refine C_fs (d := 1292) p ok ko hh _ E hh4 ehc hhc hE (fun g' G => ⟨_, rfl, G.ko ko, ?_⟩)
          have := q g' (G.fx ko ec_sc_M) (G.px p ec_sc_W)
          rw [if_neg (hy'.mp z)] at this
          have fh := ec_fwy_hr (V := w.va) (s := w.now) (hc := (w.va.hc hh).toInt.toNat) (E := E) (D := w.now.D) (c := w.now.b) (e := w.now.e) 4 0 (by omega)
          by_cases u : ec_hr w.va w.now (w.va.hc hh).toInt.toNat E w.now.D w.now.b w.now.e 4 0 = true
          · rw [if_pos u] at this
            rw [if_neg (fun x => fh.mp x u)]
            exact this
          · rw [if_neg u] at this
            rw [if_pos (fh.mpr u)]
            exact this
        · have := q h (eb_fx.rfl ko) p
          rw [if_pos (Classical.byContradiction fun u => z (hy'.mpr u))] at this
          exact this
      · refine T_X11_forces (d := 1298) _ _ ko ?_
        rw [← eg]
        refine M_nf (d := 1296) p ok kog _ _ (fun z => absurd hx z) (fun _ z => absurd hy z) (fun _ _ => ⟨_, rfl, kog, fun _ => ?_, fun z => absurd rfl z⟩)
        exact M_fi (d := 1268) p ok kog hh _ E hh4 ehc hhc hE (fun g' F => ⟨_, rfl, F.ko kog, q g' (F.fm kog ec_mw_isM) (p.mw F)⟩)
    · refine ⟨-3, w, ok, by omega, eb_XS.of (fun h ko p Q q => ?_), eb_MS.of (fun h g ko eg kog p Q q => ?_)⟩
      · obtain ⟨v, ev, pv⟩ := p.va
        exact T_X10_forces (d := 1298) _ _ ko ⟨v, ev, pv.1.1, fun _ => ⟨fun z => absurd (ec_e64.mp z) hy, fun _ => q h (eb_fx.rfl ko) p⟩, fun z => absurd ((X_hh pv ok.va _).mpr hx) z⟩
      · refine T_X11_forces (d := 1298) _ _ ko ?_
        rw [← eg]
        exact M_nf (d := 1296) p ok kog _ _ (fun z => absurd hx z) (fun _ _ => ⟨_, rfl, kog, fun z => absurd z (by decide), fun _ => q g (eb_fm.rfl kog) p⟩) (fun _ z => absurd z hy)
  · refine ⟨-2, w, ok, by omega, eb_XS.of (fun h ko p Q q => ?_), eb_MS.of (fun h g ko eg kog p Q q => ?_)⟩
    · obtain ⟨v, ev, pv⟩ := p.va
      exact T_X10_forces (d := 1298) _ _ ko ⟨v, ev, pv.1.1, fun z => absurd ((X_hh pv ok.va _).mp z) hx, fun _ => q h (eb_fx.rfl ko) p⟩
    · refine T_X11_forces (d := 1298) _ _ ko ?_
      rw [← eg]
      exact M_nf (d := 1296) p ok kog _ _ (fun _ => ⟨_, rfl, kog, fun z => absurd z (by decide), fun _ => q g (eb_fm.rfl kog) p⟩) (fun z => absurd z hx) (fun z => absurd z hx)
theorem M_bst {d : Nat} {g : eb_H} {h0 : eb_H} {Q : Option Value → eb_H → Prop} {w : eb_Wo} (p : PM w g) (ok : eb_okW w) (kog : eb_KO g) (hh hc E : Nat) (hh4 : hh < w.va.houses) (ehc : w.va.hc hh = nI hc) (hhc : hc < w.va.R * w.va.W) (hE : E < 64) : ∀ (m j : Nat) (g' : eb_H), j + m = 4 → ec_fr ec_mw g g' → ¬ ec_fwy w.va w.now hc E w.now.D w.now.b w.now.e m j = -1 → (∀ g2, ec_fr ec_mw g g2 → Q (some (.int (ec_fwy w.va w.now hc E w.now.D w.now.b w.now.e m j))) g2) → eb_Sn (d + 30) m_X11_best h0 37 [(0, .ref s_MO), (1, .int (nI hh)), (2, .int (nI E)), (4, .int (nI 1)), (5, .int (nI j))] [] g' Q := by
  obtain ⟨n1, n2, n3, n4, n5, n6, n7⟩ := ok.now.N ok.va
  obtain ⟨r1, r2, r3, r4, r5, r6, r7, r8, r9, r10, _⟩ := ok.va.RW
  intro m
  induction m with
  | zero =>
    intro j g' hj F nz q
    exact absurd rfl nz
  | succ m ih =>
    intro j g' hj F nz q
    rw [ec_fwy_s] at nz q
    have pg := p.mw F
    refine b_X11_best_37 (d := d + 29) _ _ _ _ (F.ko kog) ⟨fun z => absurd z (nI_ge (a := j) (b := 4) (by omega) (by omega)), fun _ => ?_⟩
    have e50 : eb_I g' s_m_all (50 : Int32).toNatClampNeg = nI w.now.D := pg.now.2.2.2.2.1.trans n3
    rw [ec_stand pg.now ok.va ok.now, e50, nI_1]
    refine T_X11_hersBy (d := d + 28) _ _ _ _ _ _ (F.ko kog) ?_
    refine M_whyD (by omega) pg.va pg.now ok.va ok.now w.now.D _ _ j n6 n4 n5 (by omega) (F.ko kog) (fun g1 F1 => ⟨_, rfl, F1.ko (F.ko kog), fun u => ⟨_, rfl, F1.ko (F.ko kog), fun _ => ?_, fun v => absurd rfl v⟩, fun u => ?_⟩)
    · have hb : ¬ ec_hb w.va w.now hc E w.now.D w.now.b w.now.e j = true := by
        unfold ec_hb
        have : ¬ ec_why w.va w.now w.now.D w.now.b w.now.e j = 0 := fun v => u (by rw [v]; rfl)
        simp [this]
      rw [if_neg hb] at nz q
      exact ih (j + 1) g1 (by omega) (F.trans F1) nz q
    · have wz : ec_why w.va w.now w.now.D w.now.b w.now.e j = 0 := by
        refine Classical.byContradiction fun v => ?_
        exact nI_ne0 (Nat.pos_of_ne_zero v) (by have := ec_why5 (V := w.va) (s := w.now) (D := w.now.D) (c := w.now.b) (e := w.now.e) (way := j); omega) u
      obtain ⟨to, hn⟩ := ec_why_nb wz
      have hto := ec_nb_lt n4 r6 hn
      have hne := ec_ne_lt (V := w.va) (s := w.now) (c := w.now.b) (e := w.now.e) (to := to) n5 (n7 to (by omega)).2
      have p1 := pg.mw F1
      have hb : ec_hb w.va w.now hc E w.now.D w.now.b w.now.e j = ec_th hc E to (ec_ne w.va w.now w.now.b w.now.e to) := by
        unfold ec_hb
        rw [hn]
        simp [wz]
      refine M_stD (by omega) p1.va p1.now ok.va ok.now _ _ j to n4 n5 (by omega) hn (F1.ko (F.ko kog)) (fun g5 F5 => ⟨_, rfl, F5.ko (F1.ko (F.ko kog)), ?_⟩)
      rw [nI_pred]
      refine (M_force ok hh hc E hh4 ehc hhc hE 0 (by omega)).2 (d + 21) g5 _ to _ _ (p1.mw F5) (F5.ko (F1.ko (F.ko kog))) hto hne n6 (fun g8 F8 y y01 hy => ⟨y, rfl, F8.ko (F5.ko (F1.ko (F.ko kog))), _, rfl, F8.ko (F5.ko (F1.ko (F.ko kog))), fun v => ?_, fun v => ?_⟩)
      · rw [eb_q0] at v
        have v : y = 0 := Decidable.not_not.mp v
        rw [← hb] at hy
        rw [if_neg (hy.mp v)] at nz q
        exact ih (j + 1) g8 (by omega) (((F.trans F1).trans F5).trans F8) nz q
      · rw [eb_q0] at v
        rw [← hb] at hy
        rw [if_pos (Classical.byContradiction fun x => v (fun y0 => y0 (hy.mpr x)))] at q
        exact q g8 (((F.trans F1).trans F5).trans F8)
/-- 33: best -/
theorem c_best (k : Nat) (h : eb_H) (v1 v2 : Int32) (inv : eb_Inv L xs k h) : eb_Pr 129 268 [.int v1, .int v2] (eb_Inv L xs (k + 1)) h := by
  refine eb_pr inv (fun w ok => ?_)
  by_cases hx : 0 ≤ v1.toInt ∧ v1.toInt < (w.va.houses : Nat)
  · by_cases hy : 0 ≤ v2.toInt ∧ v2.toInt < (64 : Nat)
    · obtain ⟨hh, hh4, rfl⟩ := ec_in hx
      obtain ⟨E, hE, rfl⟩ := ec_in hy
      obtain ⟨ehc, hhc⟩ := ec_hcn ok.va hh4
      refine ⟨if ec_th (w.va.hc hh).toInt.toNat E w.now.b w.now.e = true then -1 else ec_fwy w.va w.now (w.va.hc hh).toInt.toNat E w.now.D w.now.b w.now.e 4 0, w, ok, by omega, eb_XS.of (fun h ko p Q q => ?_), eb_MS.of (fun h g ko eg kog p Q q => ?_)⟩
      · obtain ⟨v, ev, pv⟩ := p.va
        refine T_X10_best (d := 1298) _ _ ko ⟨v, ev, pv.1.1, fun _ => ⟨fun _ => ?_, fun z => absurd z (ec_e64.mpr hy)⟩, fun z => absurd ((X_hh pv ok.va _).mpr hx) z⟩
        refine C_isAt (d := 1297) ev pv p.now ec_nowS.1 ok.va ok.now hh _ E hh4 ehc hhc hE ko (fun y hy' => ⟨y, rfl, ko, fun z => ?_, fun z => ?_⟩)
        · refine C_fs (d := 1292) p ok ko hh _ E hh4 ehc hhc hE (fun g' G => ⟨_, rfl, G.ko ko, ?_⟩)
          have := q g' (G.fx ko ec_sc_M) (G.px p ec_sc_W)
          rw [if_neg (hy'.mp z)] at this
          exact this
        · have := q h (eb_fx.rfl ko) p
          rw [if_pos (Classical.byContradiction fun u => z (hy'.mpr u))] at this
          exact this
      · refine T_X11_best (d := 1298) _ _ ko ?_
        rw [← eg]
        refine M_nf (d := 1296) p ok kog _ _ (fun z => absurd hx z) (fun _ z => absurd hy z) (fun _ _ => ⟨_, rfl, kog, fun _ => ?_, fun z => absurd rfl z⟩)
        have fh := ec_fwy_hr (V := w.va) (s := w.now) (hc := (w.va.hc hh).toInt.toNat) (E := E) (D := w.now.D) (c := w.now.b) (e := w.now.e) 4 0 (by omega)
        refine M_fi (d := 1268) p ok kog hh _ E hh4 ehc hhc hE (fun g' F => ⟨_, rfl, F.ko kog, ?_⟩)
        by_cases t : ec_th (w.va.hc hh).toInt.toNat E w.now.b w.now.e = true
        · rw [if_pos t] at q ⊢
          exact ⟨fun z => absurd z (by decide), fun _ => q g' (F.fm kog ec_mw_isM) (p.mw F)⟩
        · rw [if_neg t] at q ⊢
          by_cases u : ec_hr w.va w.now (w.va.hc hh).toInt.toNat E w.now.D w.now.b w.now.e 4 0 = true
          · rw [if_pos u]
            refine ⟨fun _ => ?_, fun z => absurd (by decide) z⟩
            exact M_bst (d := 1269) p ok kog hh _ E hh4 ehc hhc hE 4 0 g' (by omega) F (fun x => fh.mp x u) (fun g2 F2 => q g2 (F2.fm kog ec_mw_isM) (p.mw F2))
          · rw [if_neg u]
            rw [fh.mpr u] at q
            exact ⟨fun z => absurd z (by decide), fun _ => q g' (F.fm kog ec_mw_isM) (p.mw F)⟩
    · refine ⟨-3, w, ok, by omega, eb_XS.of (fun h ko p Q q => ?_), eb_MS.of (fun h g ko eg kog p Q q => ?_)⟩
      · obtain ⟨v, ev, pv⟩ := p.va
        exact T_X10_best (d := 1298) _ _ ko ⟨v, ev, pv.1.1, fun _ => ⟨fun z => absurd (ec_e64.mp z) hy, fun _ => q h (eb_fx.rfl ko) p⟩, fun z => absurd ((X_hh pv ok.va _).mpr hx) z⟩
      · refine T_X11_best (d := 1298) _ _ ko ?_
        rw [← eg]
        exact M_nf (d := 1296) p ok kog _ _ (fun z => absurd hx z) (fun _ _ => ⟨_, rfl, kog, fun z => absurd z (by decide), fun _ => q g (eb_fm.rfl kog) p⟩) (fun _ z => absurd z hy)
  · refine ⟨-2, w, ok, by omega, eb_XS.of (fun h ko p Q q => ?_), eb_MS.of (fun h g ko eg kog p Q q => ?_)⟩
    · obtain ⟨v, ev, pv⟩ := p.va
      exact T_X10_best (d := 1298) _ _ ko ⟨v, ev, pv.1.1, fun z => absurd ((X_hh pv ok.va _).mp z) hx, fun _ => q h (eb_fx.rfl ko) p⟩
    · refine T_X11_best (d := 1298) _ _ ko ?_
      rw [← eg]
      exact M_nf (d := 1296) p ok kog _ _ (fun _ => ⟨_, rfl, kog, fun z => absurd z (by decide), fun _ => q g (eb_fm.rfl kog) p⟩) (fun z => absurd z hx) (fun z => absurd z hx)
end EBFORCE2
