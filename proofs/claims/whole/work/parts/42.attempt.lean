section EBATT2
variable {L : Nat} {xs : Nat → Int32}
def ec_m4 (c : Nat) : Prop := ec_mw c ∨ c = s_m_all ∨ c = s_m_standBy
theorem ec_m4_M (c : Nat) (z : ec_m4 c) : eb_isM c := by
  rcases z with z | rfl | rfl
  · exact ec_mw_isM c z
  · unfold eb_isM eb_ix s_m_all; omega
  · unfold eb_isM eb_ix s_m_standBy; omega
theorem ec_m4_n (c : Nat) (z : c = s_MO ∨ c = s_m_tape ∨ c = s_m_rowSort ∨ c = s_m_rowMany ∨ c = s_m_hasImage) : ¬ ec_m4 c := by
  unfold ec_m4 ec_mw
  rcases z with rfl | rfl | rfl | rfl | rfl <;> decide
theorem PM.wnd {w : eb_Wo} {h g : eb_H} (p : PM w h) (ok : eb_okW w) (F : ec_fr ec_m4 h g) (a : ∀ q, q ≠ 51 → eb_I g s_m_all q = eb_I h s_m_all q) (v : Int32) : PM (w.setNP (ec_set w.now 4 v) w.past) (eb_sI g s_m_all 51 v) := by
  have hl := ok.len
  have F2 : ec_fr ec_m4 h (eb_sI g s_m_all 51 v) := F.sI (Or.inr (Or.inl rfl))
  have o : ∀ q, q ≠ 51 → eb_I (eb_sI g s_m_all 51 v) s_m_all q = eb_I h s_m_all q := fun q hq => by rw [eb_I_sI, if_neg hq]; exact a q hq
  refine p.setNP ok _ w.past (fun c z => F2.2.2 c (ec_m4_n c z)) F2.2.1 (fun q hq => o q (by omega)) ?_ ((o 52 (by omega)).trans p.size) (fun i hi => ?_)
  · rw [PMS_rw]
    intro q hq
    rw [ec_rw_set (by omega) hq]
    show _ = if q = 20 then v else _
    by_cases e : q = 20
    · rw [if_pos e, e]; exact eb_I_sI'
    · rw [if_neg e, o _ (by omega)]
      exact PMS_rw.mp p.now q hq
  · have := p.pp i hi
    rw [PMS_rw] at this ⊢
    intro q hq
    rw [o _ (by omega)]
    exact this q hq
def ec_sb (w : eb_Wo) (S way k : Nat) : Int32 := if ec_bi S k = true then nI (ec_lb w way k) else -1
theorem M_ma {d : Nat} {g : eb_H} {Q : Option Value → eb_H → Prop} {w : eb_Wo} (p : PM w g) (ok : eb_okW w) (kog : eb_KO g) (S way : Nat) (hS : S < 1024) (hw : way < 4) (q : ∀ g', eb_fm g g' → PM w g' → Q (some (.int (nI (ec_ma w S way)))) g') : eb_Ct (d + 4) 259 [.ref s_MO, .int (nI way), .int (nI S)] g Q := by
  obtain ⟨r1, r2, r3, r4, r5, r6, r7, r8, r9, r10, _⟩ := ok.va.RW
  obtain ⟨n1, n2, n3, n4, n5, n6, n7⟩ := ok.now.N ok.va
  have bl : ∀ k, k < 10 → (((nI S).toInt64 >>> ((nI k).toInt64 &&& 63)) &&& 1 = 1 ↔ ec_bi S k = true) := fun k hk => by
    rw [ec_lbit (by omega) (by omega), ec_lN1]
    unfold ec_bi
    rw [decide_eq_true_iff]
  -- who is alike
  have last : ∀ g3, (∀ k, k < 10 → eb_I g3 s_m_standBy k = ec_sb w S way k) → eb_KO g3 → (Q (some (.int (nI (ec_ma w S way)))) g3) → eb_Sn (d + 4) m_X11_mostAlike g 92 [(0, .ref s_MO), (4, .int (nI 0)), (5, .int (nI 0))] [] g3 Q := by
    intro g3 sb ko3 fin
    have inner : ∀ (g0 j : Nat), j < 10 → ∀ (m k a : Nat), k + m = 10 → a ≤ k → eb_Sn (d + 4) m_X11_mostAlike g 92 [(0, .ref s_MO), (4, .int (nI (if ec_bi S j = true then max g0 (a + ec_cnt (ec_al (ec_bi S) (ec_lb w way) j) m k) else max g0 a))), (5, .int (nI (j + 1)))] [] g3 Q → g0 ≤ 10 → eb_Sn (d + 4) m_X11_mostAlike g 105 [(0, .ref s_MO), (4, .int (nI g0)), (5, .int (nI j)), (6, .int (nI a)), (7, .int (nI k))] [] g3 Q := by
      intro g0 j hj m
      induction m with
      | zero =>
        intro k a hk ha w1 hg
        refine b_X11_mostAlike_105 (d := d + 3) _ _ _ _ ko3 ⟨fun _ => ?_, fun z => ?_⟩
        · rw [ec_xm2 (by omega) (by omega), nI_1]
          have : (if ec_bi S j = true then max g0 (a + ec_cnt (ec_al (ec_bi S) (ec_lb w way) j) 0 k) else max g0 a) = max g0 a := by
            split
            · rfl
            · rfl
          rw [this] at w1
          exact w1
        · exfalso
          apply z
          exact nI_le (a := 10) (by omega) (by omega)
      | succ m ih =>
        intro k a hk ha w1 hg
        have ec : ec_cnt (ec_al (ec_bi S) (ec_lb w way) j) (m + 1) k = (if ec_al (ec_bi S) (ec_lb w way) j k = true then 1 else 0) + ec_cnt (ec_al (ec_bi S) (ec_lb w way) j) m (k + 1) := rfl
        rw [ec] at w1
        refine b_X11_mostAlike_105 (d := d + 3) _ _ _ _ ko3 ?_
        rw [eb_cln (n := j) (by omega), eb_cln (n := k) (by omega), sb j hj, sb k (by omega), nI_1, nI_1]
        refine ⟨fun z => ?_, fun _ => ⟨vp_in_nI hj (by omega), fun z => ?_, fun z => ⟨vp_in_nI (by omega) (by omega), vp_in_nI hj (by omega), ?_⟩⟩⟩
        · exfalso
          exact nI_ge (a := k) (b := 10) (by omega) (by omega) z
        · have nb : ¬ ec_bi S j = true := fun y => by
            unfold ec_sb at z
            rw [if_pos y] at z
            exact ec_m1 (by have := ec_lb_lt ok way j; omega) z
          rw [if_neg nb] at w1
          rw [Int32.add_zero]
          refine ih (k + 1) a (by omega) (by omega) ?_ hg
          rw [if_neg nb]
          exact w1
        · have yb : ec_bi S j = true := Classical.byContradiction fun y => z (by unfold ec_sb; rw [if_neg y])
          have l1 := ec_lb_lt ok way k
          have l2 := ec_lb_lt ok way j
          rw [if_pos yb] at w1
          have eq : eb_q (ec_sb w S way k = ec_sb w S way j) = nI (if ec_al (ec_bi S) (ec_lb w way) j k = true then 1 else 0) := by
            unfold ec_sb
            rw [if_pos yb]
            by_cases kb : ec_bi S k = true
            · by_cases e : ec_lb w way k = ec_lb w way j
              · rw [eb_qt (by rw [if_pos kb, e]), if_pos (by unfold ec_al; simp [kb, e])]; rfl
              · rw [eb_qf (by rw [if_pos kb, nI_eq (by omega) (by omega)]; exact e), if_neg (by unfold ec_al; simp [e])]; rfl
            · rw [eb_qf (by rw [if_neg kb]; exact fun y => ec_m1 (by omega) y.symm), if_neg (by unfold ec_al; simp [kb])]; rfl
          rw [eq, nI_add]
          by_cases al : ec_al (ec_bi S) (ec_lb w way) j k = true
          · have e0 : (if ec_al (ec_bi S) (ec_lb w way) j k = true then 1 else 0 : Nat) = 1 := if_pos al
            rw [e0] at w1 ⊢
            refine ih (k + 1) (a + 1) (by omega) (by omega) ?_ hg
            rw [if_pos yb, Nat.add_assoc]
            exact w1
          · have e0 : (if ec_al (ec_bi S) (ec_lb w way) j k = true then 1 else 0 : Nat) = 0 := if_neg al
            rw [e0] at w1 ⊢
            rw [Nat.zero_add] at w1
            refine ih (k + 1) a (by omega) (by omega) ?_ hg
            rw [if_pos yb]
            exact w1
    have outer : ∀ (m j g0 : Nat), j + m = 10 → g0 ≤ 10 → ec_gm (ec_bi S) (fun j => ec_cnt (ec_al (ec_bi S) (ec_lb w way) j) 10 0) m j g0 = ec_ma w S way → eb_Sn (d + 4) m_X11_mostAlike g 92 [(0, .ref s_MO), (4, .int (nI g0)), (5, .int (nI j))] [] g3 Q := by
      intro m
      induction m with
      | zero =>
        intro j g0 hj hg e
        refine b_X11_mostAlike_92 (d := d + 3) _ _ ko3 ⟨fun _ => ?_, fun z => ?_⟩
        · have e : g0 = ec_ma w S way := e
          rw [e]
          exact fin
        · exfalso
          apply z
          exact nI_le (a := 10) (by omega) (by omega)
      | succ m ih =>
        intro j g0 hj hg e
        rw [ec_gm_s] at e
        refine b_X11_mostAlike_92 (d := d + 3) _ _ ko3 ⟨fun z => ?_, fun _ => ?_⟩
        · exfalso
          exact nI_ge (a := j) (b := 10) (by omega) (by omega) z
        · refine inner g0 j (by omega) 10 0 0 (by omega) (by omega) ?_ hg
          have cl := ec_cnt_le (ec_al (ec_bi S) (ec_lb w way) j) 10 0
          by_cases y : ec_bi S j = true
          · rw [if_pos y] at e ⊢
            rw [Nat.zero_add]
            exact ih (j + 1) _ (by omega) (by omega) e
          · rw [if_neg y] at e ⊢
            rw [Nat.max_eq_left (Nat.zero_le _)]
            exact ih (j + 1) g0 (by omega) hg e
    exact outer 10 0 0 (by omega) (by omega) rfl
  have key : ∀ (m j : Nat) (g' : eb_H), j + m = 10 → ec_fr ec_m4 g g' → (∀ q, q ≠ 51 → eb_I g' s_m_all q = eb_I g s_m_all q) → (∀ k, k < j → eb_I g' s_m_standBy k = ec_sb w S way k) → eb_Sn (d + 4) m_X11_mostAlike g 14 [(0, .ref s_MO), (1, .int (nI way)), (2, .int (nI S)), (3, .int w.now.wind), (4, .int (nI 0)), (5, .int (nI j))] [] g' Q := by
    intro m
    induction m with
    | zero =>
      intro j g' hj F o sb
      refine b_X11_mostAlike_14 (d := d + 3) _ _ _ _ _ (F.ko kog) ?_
      rw [ec_t51]
      refine ⟨fun _ => ?_, fun z => ?_⟩
      · have pu := p.wnd ok F o w.now.wind
        rw [show w.now.wind = w.now 4 from rfl, ec_set_self] at pu
        have F2 : ec_fr ec_m4 g (eb_sI g' s_m_all 51 w.now.wind) := F.sI (Or.inr (Or.inl rfl))
        refine last _ (fun k hk => ?_) (F2.ko kog) (q _ (F2.fm kog ec_m4_M) pu)
        rw [eb_I_sIn (by decide)]
        exact sb k (by omega)
      · exfalso
        apply z
        exact nI_le (a := 10) (by omega) (by omega)
    | succ m ih =>
      intro j g' hj F o sb
      have pt := p.wnd ok F o (nI j)
      have F2 : ec_fr ec_m4 g (eb_sI g' s_m_all 51 (nI j)) := F.sI (Or.inr (Or.inl rfl))
      have o2 : ∀ q, q ≠ 51 → eb_I (eb_sI g' s_m_all 51 (nI j)) s_m_all q = eb_I g s_m_all q := fun q hq => by rw [eb_I_sI, if_neg hq]; exact o q hq
      have sb2 : ∀ k, k < j → eb_I (eb_sI g' s_m_all 51 (nI j)) s_m_standBy k = ec_sb w S way k := fun k hk => by rw [eb_I_sIn (by decide)]; exact sb k hk
      have nxt : ∀ g4 v, ec_fr ec_mw (eb_sI g' s_m_all 51 (nI j)) g4 → v = ec_sb w S way j → eb_Sn (d + 4) m_X11_mostAlike g 14 [(0, .ref s_MO), (1, .int (nI way)), (2, .int (nI S)), (3, .int w.now.wind), (4, .int (nI 0)), (5, .int (nI (j + 1)))] [] (eb_sI g4 s_m_standBy j v) Q := by
        intro g4 v F4 hv
        refine ih (j + 1) _ (by omega) ((F2.trans (F4.weak (fun c z => Or.inl z))).sI (Or.inr (Or.inr rfl))) (fun q hq => ?_) (fun k hk => ?_)
        · rw [eb_I_sIn (by decide), F4.all]; exact o2 q hq
        · rw [eb_I_sI]
          by_cases e : k = j
          · rw [if_pos e, e, hv]
          · rw [if_neg e, F4.2.2 _ (by unfold ec_mw; decide)]
            exact sb2 k (by omega)
      refine b_X11_mostAlike_14 (d := d + 3) _ _ _ _ _ (F.ko kog) ?_
      rw [ec_t51, eb_cln (n := j) (by omega), bl j (by omega), nI_1]
      refine ⟨fun z => ?_, fun _ => ⟨fun z => ?_, fun z => ⟨vp_in_nI (by omega) (by omega), nxt _ _ ec_fr.rfl (by unfold ec_sb; rw [if_neg z])⟩⟩⟩
      · exfalso
        exact nI_ge (a := j) (b := 10) (by omega) (by omega) z
      · have os3 := ec_okw ok.now j (by omega)
        obtain ⟨w1, w2, w3, w4⟩ := ec_sw (w := w) j
        have ko2 := F2.ko kog
        have esb : ec_sb w S way j = nI (ec_lb w way j) := by unfold ec_sb; rw [if_pos z]
        refine M_now (d := d) (V := w.va) (s := ec_set w.now 4 (nI j)) pt.va pt.now ok.va os3 way hw ko2 (fun g4 F4 => ⟨_, rfl, F4.ko ko2, fun y => ⟨vp_in_nI (by omega) (by omega), ?_⟩, fun y => ?_⟩)
        · rw [ec_stand (V := w.va) (s := ec_set w.now 4 (nI j)) (pt.now.mvA F4.all) ok.va os3]
          refine nxt g4 _ F4 ?_
          rw [esb]
          unfold ec_lb
          rw [if_neg (fun x => y (by rw [w1, w2, w3, x]; rfl)), w2, w3]
        · have y0 : ec_why w.va (ec_set w.now 4 (nI j)) w.now.D w.now.b w.now.e way = 0 := by
            refine Classical.byContradiction fun x => ?_
            have b5 := (ec_out_why (V := w.va) (s := ec_set w.now 4 (nI j)) (way := way)).2 x
            have b6 : ec_why w.va (ec_set w.now 4 (nI j)) w.now.D w.now.b w.now.e way < 5 := b5.1
            exact nI_ne0 (Nat.pos_of_ne_zero x) (by omega) y
          obtain ⟨to, hn⟩ := ec_why_nb y0
          rw [ec_stand (V := w.va) (s := ec_set w.now 4 (nI j)) (pt.now.mvA F4.all) ok.va os3]
          refine M_st (d := d + 1) (V := w.va) (s := ec_set w.now 4 (nI j)) (pt.va.mvA F4.all) (pt.now.mvA F4.all) ok.va os3 _ _ way to n4 n5 hw hn (F4.ko ko2) (fun g5 F5 => ⟨_, rfl, F5.ko (F4.ko ko2), vp_in_nI (by omega) (by omega), nxt g5 _ (F4.trans F5) ?_⟩)
          rw [esb]
          unfold ec_lb
          rw [if_pos y0, hn]
          rfl
  refine T_X11_mostAlike (d := d + 3) _ _ kog ?_
  rw [show eb_I g s_m_all (51 : Int32).toNatClampNeg = w.now.wind from p.now.2.2.2.2.2]
  exact key 10 0 g (by omega) ec_fr.rfl (fun _ _ => rfl) (fun k hk => absurd hk (by omega))
/-- the first way by which fewest are alike -/
def ec_aw (w : eb_Wo) (S : Nat) : Nat → Nat → Nat → Nat → Nat
  | 0, _, c, _ => c
  | m + 1, y, c, l => if ec_ma w S y < l then ec_aw w S m (y + 1) y (ec_ma w S y) else ec_aw w S m (y + 1) c l
theorem ec_aw_s {w : eb_Wo} {S m y c l : Nat} : ec_aw w S (m + 1) y c l = if ec_ma w S y < l then ec_aw w S m (y + 1) y (ec_ma w S y) else ec_aw w S m (y + 1) c l := rfl
theorem C_aw {d : Nat} {h0 h : eb_H} {Q : Option Value → eb_H → Prop} {w : eb_Wo} (p : PX w h) (ok : eb_okW w) (ko : eb_KO h) (S : Nat) (hS : S < 1024) : ∀ (m y c l : Nat) (g : eb_H), y + m = 4 → c < 4 → l ≤ 11 → ec_gf ec_sc h g → (∀ g', ec_gf ec_sc h g' → Q (some (.int (nI (ec_aw w S m y c l)))) g') → eb_Sn (d + 8) m_X10_attempt h0 57 [(0, .ref s_EB), (4, .int (nI S)), (5, .int (nI c)), (6, .int (nI l)), (7, .int (nI y))] [] g Q := by
  intro m
  induction m with
  | zero =>
    intro y c l g hy hc hl G q
    refine b_X10_attempt_57 (d := d + 7) _ _ _ _ (G.ko ko) ⟨fun _ => q g G, fun z => ?_⟩
    exfalso
    apply z
    exact nI_le (a := 4) (by omega) (by omega)
  | succ m ih =>
    intro y c l g hy hc hl G q
    rw [ec_aw_s] at q
    have ml := ec_ma_lt w S y
    refine b_X10_attempt_57 (d := d + 7) _ _ _ _ (G.ko ko) ⟨fun z => ?_, fun _ => ?_⟩
    · exfalso
      exact nI_ge (a := y) (b := 4) (by omega) (by omega) z
    · refine C_ma (d := d) (G.px p ec_sc_W) ok (G.ko ko) S y hS (by omega) (fun g' G' => ⟨_, rfl, G'.ko (G.ko ko), ?_⟩)
      rw [nI_leI (by omega) (by omega), nI_1]
      refine ⟨fun z => ?_, fun z => ?_⟩
      · rw [if_neg (by omega)] at q
        exact ih (y + 1) c l g' (by omega) hc hl (G.trans G') q
      · rw [if_pos (by omega)] at q
        exact ih (y + 1) y _ g' (by omega) (by omega) (by omega) (G.trans G') q
theorem M_aw {d : Nat} {h0 h : eb_H} {Q : Option Value → eb_H → Prop} {w : eb_Wo} (ok : eb_okW w) (S : Nat) (hS : S < 1024) (hS0 : S ≠ 0) : ∀ (m y c l : Nat) (g : eb_H), y + m = 4 → c < 4 → l ≤ 11 → eb_fm h g → PM w g → (∀ g', eb_fm h g' → PM w g' → Q (some (.int (nI (ec_aw w S m y c l)))) g') → eb_Sn (d + 5) m_X11_attempt h0 37 [(0, .ref s_MO), (4, .int (nI S)), (5, .int (nI c)), (6, .int (nI l)), (7, .int (nI y))] [] g Q := by
  intro m
  induction m with
  | zero =>
    intro y c l g hy hc hl G pm q
    refine b_X11_attempt_37 (d := d + 4) _ _ _ _ G.1 ⟨fun _ => q g G pm, fun z => ?_⟩
    exfalso
    apply z
    exact nI_le (a := 4) (by omega) (by omega)
  | succ m ih =>
    intro y c l g hy hc hl G pm q
    rw [ec_aw_s] at q
    have ml := ec_ma_lt w S y
    refine b_X11_attempt_37 (d := d + 4) _ _ _ _ G.1 ⟨fun z => ?_, fun _ => ⟨fun z => absurd z (nI_ne0 (by omega) (by omega)), fun _ => ?_⟩⟩
    · exfalso
      exact nI_ge (a := y) (b := 4) (by omega) (by omega) z
    · refine M_ma (d := d) pm ok G.1 S y hS (by omega) (fun g' a b => ⟨_, rfl, a.1, ?_⟩)
      rw [nI_ltI (by omega) (by omega), nI_1]
      refine ⟨fun z => ?_, fun z => ?_⟩
      · rw [if_pos z] at q
        exact ih (y + 1) y _ g' (by omega) (by omega) (by omega) (G.trans a) b q
      · rw [if_neg z] at q
        exact ih (y + 1) c l g' (by omega) hc hl (G.trans a) b q
theorem ec_wds_n (w : eb_Wo) (t : eb_Ty) (x : Nat) : ∃ S, S < 1024 ∧ ec_wds w t x = nI S := ec_ors_n _ 10 0 0 (by omega) (by omega)
/-- 31: attempt -/
theorem c_attempt (k : Nat) (h : eb_H) (v1 v2 : Int32) (inv : eb_Inv L xs k h) : eb_Pr 127 260 [.int v1, .int v2] (eb_Inv L xs (k + 1)) h := by
  refine eb_pr inv (fun w ok => ?_)
  by_cases hx : 0 ≤ v1.toInt ∧ v1.toInt < (4 : Nat)
  · obtain ⟨i, hi, rfl⟩ := ec_in hx
    have X : ∀ y : Int32, (w.tray i = none → y = -6) → (∀ t, w.tray i = some t → ¬ ec_rf t v2 = 0 → y = ec_rf t v2) → (∀ t x S, w.tray i = some t → ec_rf t v2 = 0 → ec_gd t → x < 64 → v2 = nI x → S < 1024 → ec_wds w t x = nI S → y = if S = 0 then -1 else nI (ec_aw w S 4 0 0 11)) → eb_XS 127 [.int (nI i), .int v2] w w (.int y) := fun y y0 y1 y2 => eb_XS.of (fun h ko p Q q => by
      obtain ⟨u1, u2, u3, u4, u5⟩ := eb_trs ko hi
      refine T_X10_attempt (d := 1298) _ _ ko ⟨fun _ => ⟨vp_in_nI hi (by omega), _, by rw [eb_cln (by omega)]; exact u1, ?_⟩, fun z => absurd z (ec_tray4.mpr hx)⟩
      refine C_rf (d := 1297) p ok ko i hi v2 (fun z => ⟨_, rfl, ko, fun z' => absurd z' (by decide), fun _ => ?_⟩) (fun t ht => ⟨_, rfl, ko, fun z => ⟨vp_in_nI hi (by omega), _, by rw [eb_cln (by omega)]; exact u1, ?_⟩, fun z => ?_⟩)
      · have := q h (eb_fx.rfl ko) p
        rw [y0 z] at this
        exact this
      · obtain ⟨gd, x, hx64, rfl⟩ := ec_rf_0 z
        obtain ⟨S, hS, eS⟩ := ec_wds_n w t x
        have yy := y2 t x S ht z gd hx64 rfl hS eS
        have fin := fun g' (G : ec_gf ec_sc h g') => q g' (G.fx ko ec_sc_M) (G.px p ec_sc_W)
        refine C_wo (d := 1290) p ok ko i hi t ht gd x hx64 (fun g' G => ⟨_, rfl, G.ko ko, ?_⟩)
        rw [eS]
        refine ⟨fun u => ?_, fun u => ?_⟩
        · have S0 : ¬ S = 0 := fun e => u (by rw [e]; rfl)
          rw [if_neg S0] at yy
          rw [yy] at fin
          exact C_aw (d := 1291) p ok ko S hS 4 0 0 11 g' (by omega) (by omega) (by omega) G fin
        · have S0 : S = 0 := Classical.byContradiction fun e => nI_ne0 (Nat.pos_of_ne_zero e) (by omega) u
          rw [if_pos S0] at yy
          rw [yy] at fin
          exact fin g' G
      · have := q h (eb_fx.rfl ko) p
        rw [y1 t ht z] at this
        exact this)
    have M : ∀ y : Int32, (w.tray i = none → y = -6) → (∀ t, w.tray i = some t → ¬ ec_rf t v2 = 0 → y = ec_rf t v2) → (∀ t x S, w.tray i = some t → ec_rf t v2 = 0 → ec_gd t → x < 64 → v2 = nI x → S < 1024 → ec_wds w t x = nI S → y = if S = 0 then -1 else nI (ec_aw w S 4 0 0 11)) → eb_MS 260 [.int (nI i), .int v2] w w (.int y) := fun y y0 y1 y2 => eb_MS.of (fun h g ko eg kog p Q q => by
      refine T_X11_attempt (d := 1298) _ _ ko ?_
      rw [← eg]
      refine M_rf (d := 1296) p ok kog i hi v2 (fun z => ⟨_, rfl, kog, fun z' => absurd z' (by decide), fun _ => ?_⟩) (fun t ht => ⟨_, rfl, kog, fun z => ?_, fun z => ?_⟩)
      · have := q g (eb_fm.rfl kog) p
        rw [y0 z] at this
        exact this
      · obtain ⟨gd, x, hx64, rfl⟩ := ec_rf_0 z
        obtain ⟨S, hS, eS⟩ := ec_wds_n w t x
        have yy := y2 t x S ht z gd hx64 rfl hS eS
        refine M_wo (d := 1294) p ok kog i hi t ht gd x hx64 (fun g' a b => ⟨_, rfl, a.1, ?_⟩)
        rw [eS]
        by_cases S0 : S = 0
        · rw [if_pos S0] at yy
          rw [yy] at q
          refine b_X11_attempt_37 (d := 1298) _ _ _ _ a.1 ⟨fun z => absurd z (by decide), fun _ => ⟨fun _ => q g' a b, fun z => absurd (by rw [S0]; rfl) z⟩⟩
        · rw [if_neg S0] at yy
          rw [yy] at q
          have ml := ec_ma_lt w S 0
          refine b_X11_attempt_37 (d := 1298) _ _ _ _ a.1 ⟨fun z => absurd z (by decide), fun _ => ⟨fun z => absurd z (nI_ne0 (by omega) (by omega)), fun _ => ?_⟩⟩
          refine M_ma (d := 1294) (way := 0) b ok a.1 S hS (by omega) (fun g2 a2 b2 => ⟨_, rfl, a2.1, fun _ => ?_, fun z => absurd (nI_lt (b := 268435456) (by omega) (by omega)) z⟩)
          rw [ec_aw_s, if_pos (by omega)] at q
          exact M_aw (d := 1294) ok S hS S0 3 1 0 _ g2 (by omega) (by omega) (by omega) (a.trans a2) b2 q
      · have := q g (eb_fm.rfl kog) p
        rw [y1 t ht z] at this
        exact this)
    cases ht : w.tray i with
    | none =>
      have a0 : w.tray i = none → (-6 : Int32) = -6 := fun _ => rfl
      exact ⟨-6, w, ok, by omega, X _ a0 (fun t z => by rw [ht] at z; cases z) (fun t x S z => by rw [ht] at z; cases z), M _ a0 (fun t z => by rw [ht] at z; cases z) (fun t x S z => by rw [ht] at z; cases z)⟩
    | some t =>
      by_cases rf : ec_rf t v2 = 0
      · obtain ⟨gd, x, hx64, e⟩ := ec_rf_0 rf
        obtain ⟨S, hS, eS⟩ := ec_wds_n w t x
        have key : ∀ t' x' S', w.tray i = some t' → ec_rf t' v2 = 0 → ec_gd t' → x' < 64 → v2 = nI x' → S' < 1024 → ec_wds w t' x' = nI S' → (if S = 0 then (-1 : Int32) else nI (ec_aw w S 4 0 0 11)) = if S' = 0 then -1 else nI (ec_aw w S' 4 0 0 11) := fun t' x' S' z _ _ h64 e' h' eS' => by
          rw [ht] at z
          cases z
          rw [e, nI_eq (by omega) (by omega)] at e'
          rw [← e', eS, nI_eq (by omega) (by omega)] at eS'
          rw [eS']
        have k1 : ∀ t', w.tray i = some t' → ¬ ec_rf t' v2 = 0 → (if S = 0 then (-1 : Int32) else nI (ec_aw w S 4 0 0 11)) = ec_rf t' v2 := fun t' z y => by rw [ht] at z; cases z; exact absurd rf y
        exact ⟨_, w, ok, by omega, X _ (fun z => by rw [ht] at z; cases z) k1 key, M _ (fun z => by rw [ht] at z; cases z) k1 key⟩
      · have k1 : ∀ t', w.tray i = some t' → ¬ ec_rf t' v2 = 0 → ec_rf t v2 = ec_rf t' v2 := fun t' z y => by rw [ht] at z; cases z; rfl
        have k2 : ∀ t' x' S', w.tray i = some t' → ec_rf t' v2 = 0 → ec_gd t' → x' < 64 → v2 = nI x' → S' < 1024 → ec_wds w t' x' = nI S' → ec_rf t v2 = if S' = 0 then -1 else nI (ec_aw w S' 4 0 0 11) := fun t' x' S' z y _ _ _ _ _ => by rw [ht] at z; cases z; exact absurd y rf
        exact ⟨ec_rf t v2, w, ok, by omega, X _ (fun z => by rw [ht] at z; cases z) k1 k2, M _ (fun z => by rw [ht] at z; cases z) k1 k2⟩
  · refine ⟨-2, w, ok, by omega, eb_XS.of (fun h ko p Q q => ?_), eb_MS.of (fun h g ko eg kog p Q q => ?_)⟩
    · exact T_X10_attempt (d := 1298) _ _ ko ⟨fun z => absurd (ec_tray4.mp z) hx, fun _ => q h (eb_fx.rfl ko) p⟩
    · refine T_X11_attempt (d := 1298) _ _ ko (T_X11_noFlown (d := 1296) _ _ ko (M_noTray1 (d := 1296) v1 hx ko ⟨_, rfl, ko, fun z => absurd z (by decide), fun _ => ⟨_, rfl, ko, fun z => absurd z (by decide), fun _ => ?_⟩⟩))
      rw [← eg]
      exact q g (eb_fm.rfl kog) p
end EBATT2
