section EBWINDS
variable {L : Nat} {xs : Nat → Int32}
def ec_wds (w : eb_Wo) (t : eb_Ty) (x : Nat) : Int32 := ec_ors (fun j => ec_cf w.va (ec_set w.now 4 (nI j)) t x) 10 0 0
theorem C_wo {d : Nat} {h : eb_H} {Q : Option Value → eb_H → Prop} {w : eb_Wo} (p : PX w h) (ok : eb_okW w) (ko : eb_KO h) (i : Nat) (hi : i < 4) (t : eb_Ty) (ht : w.tray i = some t) (gd : ec_gd t) (x : Nat) (hx64 : x < 64) (q : ∀ g', ec_gf ec_sc h g' → Q (some (.int (ec_wds w t x))) g') : eb_Ct (d + 8) 150 [.ref s_EB, .ref (s_trays_0 + 1048576 * i), .int (nI x)] h Q := by
  have kt : eb_kd (s_trays_0 + 1048576 * i) = 8 := by unfold eb_kd s_trays_0; omega
  have key : ∀ (m j : Nat) (a : Int32) (g : eb_H), j + m = 10 → ec_gf ec_sc h g → (∀ g', ec_gf ec_sc h g' → Q (some (.int (ec_ors (fun j => ec_cf w.va (ec_set w.now 4 (nI j)) t x) m j a))) g') → eb_Sn (d + 8) m_X10_windsOf h 5 [(0, .ref s_EB), (1, .ref (s_trays_0 + 1048576 * i)), (2, .int (nI x)), (3, .int a), (4, .int (nI j))] [] g Q := by
    intro m
    induction m with
    | zero =>
      intro j a g hj G w1
      refine b_X10_windsOf_5 (d := d + 7) _ _ _ _ kt (G.ko ko) ⟨fun _ => w1 g G, fun z => ?_⟩
      exfalso
      apply z
      exact nI_lt (a := 9) (by omega) (by omega)
    | succ m ih =>
      intro j a g hj G w1
      have kog := G.ko ko
      have pg := G.px p ec_sc_W
      rw [ec_ors_s] at w1
      refine b_X10_windsOf_5 (d := d + 7) _ _ _ _ kt kog ⟨fun z => ?_, fun _ => ?_⟩
      · exfalso
        exact nI_nlt (a := 9) (b := j) (by omega) (by omega) z
      · refine C_trial (d := d + 6) pg kog (fun h2 pt G2 => ⟨rfl, G2.ko kog, ?_⟩)
        have F3 : ec_fr (fun c => c = s_trial) h2 (eb_sI h2 s_trial 4 (nI j)) := ec_fr.rfl.sI rfl
        have G3 : ec_gf ec_sc g (eb_sI h2 s_trial 4 (nI j)) := G2.trans (F3.gr.weak (fun c z => by rw [z]; exact ec_trial.2.1))
        have ps3 : PXS (eb_sI h2 s_trial 4 (nI j)) s_trial (ec_set w.now 4 (nI j)) := pt.set (by omega) _
        have os3 := ec_okw ok.now j (by omega)
        have ko3 := G3.ko kog
        generalize eb_sI h2 s_trial 4 (nI j) = h5 at G3 ps3 ko3 ⊢
        refine T_X10_couldFly (d := d + 6) _ _ kt ko3 ?_
        refine C_cf (d := d + 1) pg ok kog i hi t ht gd _ x hx64 t.size.toInt.toNat 0 h5 _ (Nat.zero_add _) ps3 os3 ec_sim.rfl G3 (fun h11 G11 y hy => ⟨y, rfl, G11.ko kog, fun z => ?_, fun z => ?_⟩)
        · rw [nI_1]
          refine ih (j + 1) _ h11 (by omega) (G.trans G11) (fun g' a => ?_)
          have := w1 g' a
          rw [if_neg ((ec_cf0 hy).mp z)] at this
          exact this
        · rw [ec_shl1 (by omega), nI_1]
          refine ih (j + 1) _ h11 (by omega) (G.trans G11) (fun g' a => ?_)
          have := w1 g' a
          rw [if_pos (Classical.byContradiction fun u => z ((ec_cf0 hy).mpr u))] at this
          exact this
  exact T_X10_windsOf (d := d + 7) _ _ kt ko (key 10 0 0 h (by omega) ec_gf.rfl q)
theorem M_wo {d : Nat} {g : eb_H} {Q : Option Value → eb_H → Prop} {w : eb_Wo} (p : PM w g) (ok : eb_okW w) (kog : eb_KO g) (i : Nat) (hi : i < 4) (t : eb_Ty) (ht : w.tray i = some t) (gd : ec_gd t) (x : Nat) (hx64 : x < 64) (q : ∀ g', eb_fm g g' → PM w g' → Q (some (.int (ec_wds w t x))) g') : eb_Ct (d + 4) 257 [.ref s_MO, .int (nI i), .int (nI x)] g Q := by
  have po : 31 + ec_po 4 = 51 := rfl
  have key : ∀ (m j : Nat) (a : Int32) (g' : eb_H), j + m = 10 → ec_fr (fun c => ec_mw c ∨ c = s_m_all ∨ c = s_m_was) g g' → (∀ q, q ≠ 51 → eb_I g' s_m_all q = eb_I g s_m_all q) → (∀ g2, eb_fm g g2 → PM w g2 → Q (some (.int (ec_ors (fun j => ec_cf w.va (ec_set w.now 4 (nI j)) t x) m j a))) g2) → eb_Sn (d + 4) m_X11_windsOf g 14 [(0, .ref s_MO), (1, .int (nI i)), (2, .int (nI x)), (3, .int w.now.wind), (4, .int a), (5, .int (nI j))] [] g' Q := by
    intro m
    induction m with
    | zero =>
      intro j a g' hj F o w1
      refine b_X11_windsOf_14 (d := d + 3) _ _ _ _ _ (F.ko kog) ?_
      rw [ec_t51]
      refine ⟨fun _ => ?_, fun z => ?_⟩
      · have pu := p.untmp ok F 4 (by omega) (by rw [po]; exact o)
        exact w1 _ ((F.sI (Or.inr (Or.inl rfl))).fm kog ec_mw3) pu
      · exfalso
        apply z
        exact nI_le (a := 10) (by omega) (by omega)
    | succ m ih =>
      intro j a g' hj F o w1
      rw [ec_ors_s] at w1
      have pt := p.tmp ok F 4 (by omega) (by rw [po]; exact o) (nI j)
      rw [po] at pt
      have F2 : ec_fr (fun c => ec_mw c ∨ c = s_m_all ∨ c = s_m_was) g (eb_sI g' s_m_all 51 (nI j)) := F.sI (Or.inr (Or.inl rfl))
      have o2 : ∀ q, q ≠ 51 → eb_I (eb_sI g' s_m_all 51 (nI j)) s_m_all q = eb_I g s_m_all q := fun q hq => by rw [eb_I_sI, if_neg hq]; exact o q hq
      refine b_X11_windsOf_14 (d := d + 3) _ _ _ _ _ (F.ko kog) ?_
      rw [ec_t51, ec_shl1 (by omega), nI_1]
      refine ⟨fun z => ?_, fun _ => ?_⟩
      · exfalso
        exact nI_ge (a := j) (b := 10) (by omega) (by omega) z
      · generalize eb_sI g' s_m_all 51 (nI j) = g3 at pt F2 o2 ⊢
        have os3 := ec_okw ok.now j (by omega)
        have ok3 := ec_okW_now ok _ os3
        refine T_X11_isFlown (d := d + 2) _ _ (F2.ko kog) ?_
        rw [ec_stand pt.now ok3.va ok3.now]
        refine M_cf (d := d) pt ok3 (F2.ko kog) i hi t ht gd x hx64 t.size.toInt.toNat 0 _ _ g3 (Nat.zero_add _) (by have := (ok3.now.N ok3.va).2.2.2.1; exact this) (by have := (ok3.now.N ok3.va).2.2.2.2.1; exact this) ec_fr.rfl (fun g4 F4 y hy => ⟨y, rfl, F4.ko (F2.ko kog), ?_⟩)
        have hy' := ec_cf0 (V := w.va) (s := ec_set w.now 4 (nI j)) hy
        refine ih (j + 1) _ g4 (by omega) (F2.trans (F4.weak (fun c z => Or.inl z))) (fun q hq => ?_) (fun g2 b1 b2 => ?_)
        · rw [F4.all]; exact o2 q hq
        · have := w1 g2 b1 b2
          by_cases z : y = 0
          · rw [if_neg (hy'.mp z)] at this
            rw [if_pos z, Int32.or_zero]
            exact this
          · rw [if_pos (Classical.byContradiction fun u => z (hy'.mpr u))] at this
            rw [if_neg z]
            exact this
  refine T_X11_windsOf (d := d + 3) _ _ kog ?_
  rw [show eb_I g s_m_all (51 : Int32).toNatClampNeg = w.now.wind from p.now.2.2.2.2.2]
  exact key 10 0 0 g (by omega) ec_fr.rfl (fun _ _ => rfl) q
/-- 30: winds -/
theorem c_winds (k : Nat) (h : eb_H) (v1 v2 : Int32) (inv : eb_Inv L xs k h) : eb_Pr 126 258 [.int v1, .int v2] (eb_Inv L xs (k + 1)) h := by
  refine eb_pr inv (fun w ok => ?_)
  by_cases hx : 0 ≤ v1.toInt ∧ v1.toInt < (4 : Nat)
  · obtain ⟨i, hi, rfl⟩ := ec_in hx
    have X : ∀ y : Int32, (w.tray i = none → y = -6) → (∀ t, w.tray i = some t → ¬ ec_rf t v2 = 0 → y = ec_rf t v2) → (∀ t x, w.tray i = some t → ec_rf t v2 = 0 → ec_gd t → x < 64 → v2 = nI x → y = ec_wds w t x) → eb_XS 126 [.int (nI i), .int v2] w w (.int y) := fun y y0 y1 y2 => eb_XS.of (fun h ko p Q q => by
      obtain ⟨u1, u2, u3, u4, u5⟩ := eb_trs ko hi
      refine T_X10_winds (d := 1298) _ _ ko ⟨fun _ => ⟨vp_in_nI hi (by omega), _, by rw [eb_cln (by omega)]; exact u1, ?_⟩, fun z => absurd z (ec_tray4.mpr hx)⟩
      refine C_rf (d := 1297) p ok ko i hi v2 (fun z => ⟨_, rfl, ko, fun z' => absurd z' (by decide), fun _ => ?_⟩) (fun t ht => ⟨_, rfl, ko, fun z => ⟨vp_in_nI hi (by omega), _, by rw [eb_cln (by omega)]; exact u1, ?_⟩, fun z => ?_⟩)
      · have := q h (eb_fx.rfl ko) p
        rw [y0 z] at this
        exact this
      · obtain ⟨gd, x, hx64, rfl⟩ := ec_rf_0 z
        refine C_wo (d := 1290) p ok ko i hi t ht gd x hx64 (fun g' G => ⟨_, rfl, G.ko ko, ?_⟩)
        have := q g' (G.fx ko ec_sc_M) (G.px p ec_sc_W)
        rw [y2 t x ht z gd hx64 rfl] at this
        exact this
      · have := q h (eb_fx.rfl ko) p
        rw [y1 t ht z] at this
        exact this)
    have M : ∀ y : Int32, (w.tray i = none → y = -6) → (∀ t, w.tray i = some t → ¬ ec_rf t v2 = 0 → y = ec_rf t v2) → (∀ t x, w.tray i = some t → ec_rf t v2 = 0 → ec_gd t → x < 64 → v2 = nI x → y = ec_wds w t x) → eb_MS 258 [.int (nI i), .int v2] w w (.int y) := fun y y0 y1 y2 => eb_MS.of (fun h g ko eg kog p Q q => by
      refine T_X11_winds (d := 1298) _ _ ko ?_
      rw [← eg]
      refine M_rf (d := 1296) p ok kog i hi v2 (fun z => ⟨_, rfl, kog, fun z' => absurd z' (by decide), fun _ => ?_⟩) (fun t ht => ⟨_, rfl, kog, fun z => ?_, fun z => ?_⟩)
      · have := q g (eb_fm.rfl kog) p
        rw [y0 z] at this
        exact this
      · obtain ⟨gd, x, hx64, rfl⟩ := ec_rf_0 z
        refine M_wo (d := 1294) p ok kog i hi t ht gd x hx64 (fun g' a b => ⟨_, rfl, a.1, ?_⟩)
        have := q g' a b
        rw [y2 t x ht z gd hx64 rfl] at this
        exact this
      · have := q g (eb_fm.rfl kog) p
        rw [y1 t ht z] at this
        exact this)
    cases ht : w.tray i with
    | none =>
      have a0 : w.tray i = none → (-6 : Int32) = -6 := fun _ => rfl
      exact ⟨-6, w, ok, by omega, X _ a0 (fun t z => by rw [ht] at z; cases z) (fun t x z => by rw [ht] at z; cases z), M _ a0 (fun t z => by rw [ht] at z; cases z) (fun t x z => by rw [ht] at z; cases z)⟩
    | some t =>
      by_cases rf : ec_rf t v2 = 0
      · obtain ⟨gd, x, hx64, e⟩ := ec_rf_0 rf
        have key : ∀ t' x', w.tray i = some t' → ec_rf t' v2 = 0 → ec_gd t' → x' < 64 → v2 = nI x' → ec_wds w t x = ec_wds w t' x' := fun t' x' z _ _ h64 e' => by
          rw [ht] at z
          cases z
          rw [e, nI_eq (by omega) (by omega)] at e'
          rw [e']
        have k1 : ∀ t', w.tray i = some t' → ¬ ec_rf t' v2 = 0 → ec_wds w t x = ec_rf t' v2 := fun t' z y => by rw [ht] at z; cases z; exact absurd rf y
        exact ⟨ec_wds w t x, w, ok, by omega, X _ (fun z => by rw [ht] at z; cases z) k1 key, M _ (fun z => by rw [ht] at z; cases z) k1 key⟩
      · have k1 : ∀ t', w.tray i = some t' → ¬ ec_rf t' v2 = 0 → ec_rf t v2 = ec_rf t' v2 := fun t' z y => by rw [ht] at z; cases z; rfl
        have k2 : ∀ t' x', w.tray i = some t' → ec_rf t' v2 = 0 → ec_gd t' → x' < 64 → v2 = nI x' → ec_rf t v2 = ec_wds w t' x' := fun t' x' z y _ _ _ => by rw [ht] at z; cases z; exact absurd y rf
        exact ⟨ec_rf t v2, w, ok, by omega, X _ (fun z => by rw [ht] at z; cases z) k1 k2, M _ (fun z => by rw [ht] at z; cases z) k1 k2⟩
  · refine ⟨-2, w, ok, by omega, eb_XS.of (fun h ko p Q q => ?_), eb_MS.of (fun h g ko eg kog p Q q => ?_)⟩
    · exact T_X10_winds (d := 1298) _ _ ko ⟨fun z => absurd (ec_tray4.mp z) hx, fun _ => q h (eb_fx.rfl ko) p⟩
    · refine T_X11_winds (d := 1298) _ _ ko (T_X11_noFlown (d := 1296) _ _ ko (M_noTray1 (d := 1296) v1 hx ko ⟨_, rfl, ko, fun z => absurd z (by decide), fun _ => ⟨_, rfl, ko, fun z => absurd z (by decide), fun _ => ?_⟩⟩))
      rw [← eg]
      exact q g (eb_fm.rfl kog) p
end EBWINDS
