section EBPAIRS5
variable {L : Nat} {xs : Nat → Int32}
/-! undo -/
theorem ec_fmod : ∀ a, a < 10 → ∀ b, b < 11 → (0 ≤ ((nI a - nI b) ^^^ 10) → (nI a - nI b) - (nI a - nI b) / 10 * 10 = nI ((a + 10 - b) % 10)) ∧ (¬ (0 ≤ ((nI a - nI b) ^^^ 10)) → ((nI a - nI b) - (nI a - nI b) / 10 * 10 = 0 → (nI a - nI b) - (nI a - nI b) / 10 * 10 = nI ((a + 10 - b) % 10)) ∧ (¬ ((nI a - nI b) - (nI a - nI b) / 10 * 10 = 0) → (nI a - nI b) - (nI a - nI b) / 10 * 10 + 10 = nI ((a + 10 - b) % 10))) := by decide +kernel
theorem ec_dropD (p : List eb_St) (b i : Nat) : (p.drop b).getD i ec_s0 = p.getD (b + i) ec_s0 := by
  rw [List.getD_eq_getElem?_getD, List.getD_eq_getElem?_getD, List.getElem?_drop]
theorem M_undo_l {d : Nat} {h0 h : eb_H} {Q : Option Value → eb_H → Prop} (ko : eb_KO h) (n : Nat) (hn : n < 10) (e52 : eb_I h s_m_all 52 = nI n) (w : ∀ h', ec_fr (fun c => c = s_m_all) h h' → (∀ q, q < 21 → eb_I h' s_m_all (31 + q) = eb_I h s_m_all (53 + 21 * n + q)) → (∀ q, (q < 31 ∨ 52 ≤ q) → eb_I h' s_m_all q = eb_I h s_m_all q) → Q (some (.int (nI n))) h') : eb_Sn (d + 1) m_X11_undo h0 44 [(0, .ref s_MO), (2, .int 0)] [] h Q := by
  have key : ∀ (m j : Nat) (g : eb_H), j + m = 21 → ec_fr (fun c => c = s_m_all) h g → (∀ q, q < j → eb_I g s_m_all (31 + q) = eb_I h s_m_all (53 + 21 * n + q)) → (∀ q, (q < 31 ∨ 52 ≤ q) → eb_I g s_m_all q = eb_I h s_m_all q) → eb_Sn (d + 1) m_X11_undo h0 44 [(0, .ref s_MO), (2, .int (nI j))] [] g Q := by
    intro m
    induction m with
    | zero =>
      intro j g hj F hq ho
      have : j = 21 := by omega
      subst this
      refine b_X11_undo_44 _ (F.ko ko) ⟨fun _ => ?_, fun z => absurd (by decide) z⟩
      rw [ec_t52, ho 52 (by omega), e52]
      exact w g F hq ho
    | succ m ih =>
      intro j g hj F hq ho
      have e : eb_I g s_m_all (52 : Int32).toNatClampNeg = nI n := (ho 52 (by omega)).trans e52
      have e53 : (53 : Int32) + (21 : Int32) * nI n + nI j = nI (53 + 21 * n + j) := by
        have : (21 : Int32) * nI n = nI (21 * n) := pk_mul 21 n
        rw [this, show (53 : Int32) + nI (21 * n) = nI (53 + 21 * n) from ec_9 53 (21 * n), nI_add]
      have e31 : (31 : Int32) + nI j = nI (31 + j) := ec_9 31 j
      refine b_X11_undo_44 _ (F.ko ko) ⟨fun z => ?_, fun _ => ?_⟩
      · exfalso
        exact nI_ge (a := j) (b := 21) (by omega) (by omega) z
      · rw [e, e53, e31, eb_cln (by omega), eb_cln (by omega), nI_1]
        refine ⟨vp_in_nI (by omega) (by omega), vp_in_nI (by omega) (by omega), ih (j + 1) _ (by omega) (F.sI rfl) (fun q hq2 => ?_) (fun q hq2 => ?_)⟩
        · rw [eb_I_sI]
          by_cases e : q = j
          · rw [if_pos (by omega), e]; exact ho _ (by omega)
          · rw [if_neg (by omega)]; exact hq q (by omega)
        · rw [eb_I_sI, if_neg (by omega)]; exact ho q hq2
  exact key 21 0 h (by omega) ec_fr.rfl (fun q hq => absurd hq (by omega)) (fun _ _ => rfl)
/-- 14: undo -/
theorem c_undo (k : Nat) (h : eb_H) (v1 : Int32) (inv : eb_Inv L xs k h) : eb_Pr 108 217 [.int v1] (eb_Inv L xs (k + 1)) h := by
  refine eb_pr inv (fun w ok => ?_)
  have hl := ok.len
  have x1 : v1 < (1 : Int32) ↔ v1.toInt < 1 := by rw [eb_i32, show (1 : Int32).toInt = 1 by decide]
  have m1 : ((¬ (v1.toInt64 < 1)) ∧ (¬ (10 < v1.toInt64))) ↔ (1 ≤ v1.toInt ∧ v1.toInt ≤ 10) := by rw [eb_l64a, eb_l64b, ec_d1, show (10 : Int64).toInt = 10 by decide]; omega
  by_cases hx : 1 ≤ v1.toInt ∧ v1.toInt ≤ (w.past.length : Nat)
  · obtain ⟨b, hb, hb2, rfl⟩ : ∃ b, 1 ≤ b ∧ b ≤ w.past.length ∧ v1 = nI b := ⟨v1.toInt.toNat, by omega, by omega, eb_ofn (by omega)⟩
    have os : eb_okS w.va (w.past.getD (b - 1) ec_s0) := by
      have := ok.past (b - 1) (by omega)
      rw [ec_getD (show b - 1 < w.past.length by omega) w.now ec_s0] at this
      exact this
    have hdl : (w.past.drop b).length = w.past.length - b := List.length_drop
    refine ⟨nI (w.past.length - b), w.setNP (w.past.getD (b - 1) ec_s0) (w.past.drop b), ok.setNP _ _ os (by omega) (fun i hi => ?_), by show w.fed ≤ _; omega, eb_XS.of (fun h ko p Q q => ?_), eb_MS.of (fun h g ko eg kog p Q q => ?_)⟩
    · rw [ec_dropD]
      have := ok.past (b + i) (by omega)
      rw [ec_getD (show b + i < w.past.length by omega) w.now ec_s0] at this
      exact this
    · obtain ⟨a1, n, hn, e, f⟩ := p.pp
      obtain ⟨y1, y2, y3⟩ := eb_pss ko (Nat.mod_lt (n + 10 - b) (show 0 < 10 by omega))
      have hm := Nat.mod_lt (n + 10 - b) (show 0 < 10 by omega)
      refine T_X10_undo (d := 1298) _ ko ⟨fun z => ?_, fun _ => ⟨fun _ => ?_, fun z => ?_⟩⟩
      · exfalso
        rw [x1] at z
        omega
      · refine T_X4_bringBack (d := 1297) s_now _ (by decide) ko ?_
        rw [e]
        have fm := ec_fmod n hn b (by omega)
        refine eb_Ct.mono (Q := fun r h1 => ∃ y2, r = some (.int y2) ∧ h1 = h ∧ y2 = nI ((n + 10 - b) % 10)) ?_ ?_
        · exact T_J9_floorMod_7cf53 _ _ ko ⟨by decide, fun z => ⟨_, rfl, rfl, fm.1 z⟩, fun z => ⟨fun y => ⟨_, rfl, rfl, (fm.2 z).1 y⟩, fun y => ⟨_, rfl, rfl, (fm.2 z).2 y⟩⟩⟩
        · rintro r h1 ⟨y2', rfl, rfl, rfl⟩
          refine ⟨_, rfl, ko, ?_⟩
          have es : eb_I (eb_sI h1 s_past 1 (nI ((n + 10 - b) % 10))) s_past 2 = nI w.past.length := by rw [eb_I_sI, if_neg (by decide)]; exact a1
          have ei : (if (nI w.past.length - nI b) < (0 : Int32) then 0 else nI w.past.length - nI b : Int32) = nI (w.past.length - b) := by
            rw [pk_sub hb2, if_neg (nI_pos (by omega))]
          rw [es, ei]
          have e1 : eb_I (eb_sI (eb_sI h1 s_past 1 (nI ((n + 10 - b) % 10))) s_past 2 (nI (w.past.length - b))) s_past 1 = nI ((n + 10 - b) % 10) := by rw [eb_I_sI, if_neg (by decide), eb_I_sI']
          rw [e1, eb_cln (by omega)]
          refine ⟨fun z => absurd z (nI_pos (by omega)), fun _ => ⟨fun z => ?_, fun _ => ⟨vp_in_nI hm (by omega), _, y1, ?_⟩⟩⟩
          · exfalso
            exact nI_ge (a := (n + 10 - b) % 10) (b := 10) hm (by omega) z
          · have G0 : ec_gf (fun c => c = s_past) h1 (eb_sI (eb_sI h1 s_past 1 (nI ((n + 10 - b) % 10))) s_past 2 (nI (w.past.length - b))) := (((ec_fr.rfl (P := fun c => c = s_past)).sI rfl).sI rfl).gr
            have ps : PXS h1 (s_past_states_0 + 1048576 * ((n + 10 - b) % 10)) (w.past.getD (b - 1) ec_s0) := by
              have := f (b - 1) (by omega)
              rw [show (n + 9 - (b - 1)) % 10 = (n + 10 - b) % 10 by omega] at this
              exact this
            refine C_bec (d := 1296) s_now _ _ ec_nowS.1 y2 (by unfold s_now s_past_states_0; omega) (ko_s_now_5 ko) (ps.gr G0 (by unfold s_past s_past_states_0; omega) (by unfold s_past s_past_states_0; omega)) ko (fun h2 pn G => ?_)
            have G2 : ec_gf (fun c => c = s_past ∨ c = s_now ∨ c = s_now + 524807) h1 h2 := (G0.weak (fun c z => Or.inl z)).trans (G.weak (fun c z => Or.inr z))
            have spn : ∀ c, c = s_past ∨ c = s_now ∨ c = s_now + 524807 → ¬ ec_isM c ∧ ¬ (eb_isW c ∧ ¬ ec_pst c ∧ ¬ (15 ≤ eb_ix c ∧ eb_ix c ≤ 16) ∨ c = s_flights) := by
              intro c z
              rcases z with rfl | rfl | rfl
              · unfold ec_isM eb_isM ec_pst eb_ix s_past s_flights; omega
              · unfold ec_isM eb_isM eb_ix s_now s_flights; omega
              · unfold ec_isM eb_isM eb_ix s_now s_flights; omega
            have ep : eb_I h2 s_past = eb_I (eb_sI (eb_sI h1 s_past 1 (nI ((n + 10 - b) % 10))) s_past 2 (nI (w.past.length - b))) s_past := G.at (by decide)
            have ep2 : eb_I h2 s_past 2 = nI (w.past.length - b) := by rw [ep, eb_I_sI']
            have pX : PX (w.setNP (w.past.getD (b - 1) ec_s0) (w.past.drop b)) h2 := by
              refine p.setNP _ _ (G2.2.weak (fun c z y => (spn c y).2 z)) pn ⟨by rw [ep2, hdl], (n + 10 - b) % 10, hm, by rw [ep]; exact e1, fun i hi => ?_⟩
              rw [ec_dropD]
              have := f (b + i) (by omega)
              rw [show (n + 9 - (b + i)) % 10 = ((n + 10 - b) % 10 + 9 - i) % 10 by omega] at this
              have hm2 := Nat.mod_lt ((n + 10 - b) % 10 + 9 - i) (show 0 < 10 by omega)
              exact this.gr G2 (by unfold s_past s_now s_past_states_0; omega) (by unfold s_past s_now s_past_states_0; omega)
            refine ⟨rfl, G2.ko ko, rfl, G2.ko ko, ?_⟩
            rw [ep2]
            exact q h2 (G2.fx ko (fun c z => (spn c z).1)) pX
      · exfalso
        apply z
        rw [a1]
        exact nI_le hb2 (by omega)
    · refine T_X11_undo (d := 1298) _ ko ?_
      rw [← eg]
      have e52 : eb_I g s_m_all (52 : Int32).toNatClampNeg = nI w.past.length := p.size
      rw [e52]
      refine ⟨fun z => absurd (m1.mpr ⟨hx.1, by omega⟩) z, fun _ => ⟨fun _ => ?_, fun z => absurd (nI_le hb2 (by omega)) z⟩⟩
      rw [pk_sub hb2, ec_t52]
      have F0 : ec_fr (fun c => c = s_m_all) g (eb_sI g s_m_all 52 (nI (w.past.length - b))) := ec_fr.rfl.sI rfl
      refine M_undo_l kog (w.past.length - b) (by omega) eb_I_sI' (fun h' F a1 a2 => q h' ((F0.trans F).fm kog (fun c z => by rw [z]; unfold eb_isM eb_ix s_m_all; omega)) ?_)
      have oth : ∀ q, (q < 31 ∨ 53 ≤ q) → eb_I h' s_m_all q = eb_I g s_m_all q := fun q hq => by
        rw [a2 q (by omega), eb_I_sI, if_neg (by omega)]
      refine p.setNP ok _ _ (fun c z => (F0.trans F).2.2 c (by rcases z with rfl | rfl | rfl | rfl | rfl <;> decide)) (F0.trans F).2.1 (fun q hq => oth q (by omega)) ?_ ?_ (fun i hi => ?_)
      · rw [PMS_rw]
        intro q hq
        rw [a1 q hq, eb_I_sI, if_neg (by omega)]
        have := PMS_rw.mp (p.pp (b - 1) (by omega)) q hq
        rw [show w.past.length - 1 - (b - 1) = w.past.length - b by omega] at this
        exact this
      · rw [a2 52 (by omega), eb_I_sI', hdl]
      · rw [ec_dropD, PMS_rw]
        intro q hq
        rw [oth _ (by omega)]
        have := PMS_rw.mp (p.pp (b + i) (by omega)) q hq
        rw [show w.past.length - 1 - (b + i) = (w.past.drop b).length - 1 - i by omega] at this
        exact this
  · refine ⟨-3, w, ok, by omega, eb_XS.of (fun h ko p Q q => ?_), eb_MS.of (fun h g ko eg kog p Q q => ?_)⟩
    · have fin := q h (eb_fx.rfl ko) p
      refine T_X10_undo (d := 1298) _ ko ⟨fun _ => fin, fun z => ⟨fun y => ?_, fun _ => fin⟩⟩
      exfalso
      rw [x1] at z
      rw [p.size, eb_i32e, nI_toInt (by omega)] at y
      omega
    · refine T_X11_undo (d := 1298) _ ko ?_
      rw [← eg]
      have e52 : eb_I g s_m_all (52 : Int32).toNatClampNeg = nI w.past.length := p.size
      rw [e52]
      have fin := q g (eb_fm.rfl kog) p
      refine ⟨fun _ => fin, fun z => ⟨fun y => ?_, fun _ => fin⟩⟩
      exfalso
      rw [m1] at z
      rw [eb_i32e, nI_toInt (by omega)] at y
      omega
/-! cell -/
def ec_fh (f : Nat → Int32) (x : Int32) : Nat → Nat → Int32
  | 0, _ => -1
  | m + 1, j => if f j = x then nI j else ec_fh f x m (j + 1)
theorem C_fh {d : Nat} {h0 h : eb_H} {Q : Option Value → eb_H → Prop} {v : Nat} {V : eb_Va} (p : PXV h v V) (ok : eb_okV V) (x : Int32) (ko : eb_KO h) : ∀ (m j : Nat), j + m = V.houses → Q (some (.int (ec_fh V.hc x m j))) h → eb_Sn (d + 1) m_X9_firstHouseIn h0 2 [(0, .ref v), (1, .int x), (2, .int (nI j))] [] h Q := by
  obtain ⟨p0, p1, p2, p3, p4, p5, p6, _⟩ := p
  obtain ⟨l1, l2, l3, l4⟩ := eb_va_ln p0.1 p0.2.1
  have hh := ok.houses
  intro m
  induction m with
  | zero =>
    intro j hj w
    refine b_X9_firstHouseIn_2 v x _ p0.1 ko ⟨fun _ => w, fun z => ?_⟩
    exfalso
    apply z
    rw [p5]
    exact nI_le (by omega) (by omega)
  | succ m ih =>
    intro j hj w
    unfold ec_fh at w
    refine b_X9_firstHouseIn_2 v x _ p0.1 ko ⟨fun z => ?_, fun _ => ⟨fun z => absurd z (nI_pos (by omega)), fun _ => ⟨_, p6.1, l2, fun z => ?_, fun _ => ⟨?_, ?_⟩⟩⟩⟩
    · exfalso
      rw [p5] at z
      exact nI_ge (by omega) (by omega) z
    · exfalso
      rw [l1] at z
      exact nI_ge (a := j) (b := 4) (by omega) (by omega) z
    · rw [l1]; exact vp_in_nI (by omega) (by omega)
    · rw [eb_cln (by omega), p6.2 j (by omega), nI_1]
      refine ⟨fun z => ?_, fun z => ?_⟩
      · rw [if_neg z] at w
        exact ih (j + 1) (by omega) w
      · rw [if_pos z] at w
        exact w
theorem M_fh {d : Nat} {h0 h : eb_H} {Q : Option Value → eb_H → Prop} {V : eb_Va} (p : PMV h 0 V) (ok : eb_okV V) (x : Int32) (ko : eb_KO h) : ∀ (m j : Nat), j + m = V.houses → Q (some (.int (ec_fh V.hc x m j))) h → eb_Sn (d + 2) m_X11_cell h0 24 [(0, .ref s_MO), (1, .int x), (3, .int (nI j))] [] h Q := by
  obtain ⟨z1, z2, z3, z4, z5, z6, z7, z8, z9⟩ := p
  have hh := ok.houses
  have e4 : eb_I h s_m_all (4 : Int32).toNatClampNeg = nI V.houses := z5
  intro m
  induction m with
  | zero =>
    intro j hj w
    refine b_X11_cell_24 x _ ko ⟨fun _ => w, fun z => ?_⟩
    exfalso
    apply z
    rw [e4]
    exact nI_le (by omega) (by omega)
  | succ m ih =>
    intro j hj w
    unfold ec_fh at w
    have e27 : (27 : Int32) + nI j = nI (27 + j) := ec_9 27 j
    refine b_X11_cell_24 x _ ko ?_
    rw [e4, e27, eb_cln (by omega)]
    have e9 : eb_I h s_m_all (27 + j) = V.hc j := by
      have := z9 j (by omega)
      rw [Nat.zero_add] at this
      exact this
    rw [e9, nI_1]
    refine ⟨fun z => ?_, fun _ => ⟨vp_in_nI (by omega) (by omega), fun z => ?_, fun z => ?_⟩⟩
    · exfalso
      exact nI_ge (by omega) (by omega) z
    · rw [if_neg z] at w
      exact ih (j + 1) (by omega) w
    · rw [if_pos z] at w
      exact w
/-- 5: cell -/
theorem c_cell (k : Nat) (h : eb_H) (v1 v2 : Int32) (inv : eb_Inv L xs k h) : eb_Pr 99 201 [.int v1, .int v2] (eb_Inv L xs (k + 1)) h := by
  refine eb_pr inv (fun w ok => ?_)
  obtain ⟨r1, r2, r3, r4, r5, r6, r7, r8, r9, r10, _⟩ := ok.va.RW
  obtain ⟨n1, n2, n3, n4, n5, n6, n7⟩ := ok.now.N ok.va
  by_cases hx : 0 ≤ v1.toInt ∧ v1.toInt < (w.va.R * w.va.W : Nat)
  · obtain ⟨c, hc, rfl⟩ := ec_in hx
    refine ⟨if v2 = 3 then ec_fh w.va.hc (nI c) w.va.houses 0 else if v2 = 0 then w.va.ht c else if v2 = 1 then w.now.th c else if v2 = 2 then nI (w.now.D / 2 ^ c % 2) else -2, w, ok, by omega, eb_XS.of (fun h ko p Q q => ?_), eb_MS.of (fun h g ko eg kog p Q q => ?_)⟩
    · obtain ⟨v, ev, pv⟩ := p.va
      have hx2 := (X_has pv ok.va _).mpr hx
      obtain ⟨l1, l2, l3, l4⟩ := eb_va_ln pv.1.1 pv.1.2.1
      have fin := q h (eb_fx.rfl ko) p
      refine T_X10_cell (d := 1298) _ _ ko ⟨v, ev, pv.1.1, fun _ => ⟨fun z => ⟨fun y => absurd y hx2.1, fun _ => ⟨_, pv.2.2.2.2.2.2.2.1.1, l4, fun y => ?_, fun _ => ⟨?_, ?_⟩⟩⟩, fun z => ⟨fun y => absurd y hx2.1, fun _ => ⟨fun y => ?_, fun _ => ⟨vp_in_nI (by omega) (by omega), ?_⟩⟩⟩, fun z => ?_, fun z => ?_, fun z0 z1 z2 z3 => ?_⟩, fun z => absurd hx2 z⟩
      · exfalso
        rw [l3] at y
        exact nI_ge (a := c) (b := 16) (by omega) (by omega) y
      · rw [l3]; exact vp_in_nI (by omega) (by omega)
      · rw [z, if_neg (by decide), if_pos rfl] at fin
        rw [eb_cln (by omega), pv.2.2.2.2.2.2.2.1.2 c (by omega)]
        exact fin
      · exfalso
        exact nI_ge (a := c) (b := 16) (by omega) (by omega) y
      · rw [z, if_neg (by decide), if_neg (by decide), if_pos rfl] at fin
        rw [eb_cln (by omega), show eb_I h s_now_things c = w.now.th c from p.now.2.2.2.2.2.2 c (by omega)]
        exact fin
      · rw [z, if_neg (by decide), if_neg (by decide), if_neg (by decide), if_pos rfl] at fin
        rw [p.now.2.2.2.1, n3]
        by_cases y : w.now.D / 2 ^ c % 2 = 1
        · refine ec_qp (Q := fun y => Q (some (.int y)) h) (by rw [ec_bit1 (by omega) (by omega), ec_nI1]; exact y) ?_
          rw [y] at fin
          exact fin
        · refine ec_qn (Q := fun y => Q (some (.int y)) h) (by rw [ec_bit1 (by omega) (by omega), ec_nI1]; exact y) ?_
          rw [show w.now.D / 2 ^ c % 2 = 0 by omega] at fin
          exact fin
      · rw [if_pos z] at fin
        exact T_X9_firstHouseIn (d := 1297) v _ pv.1.1 ko (C_fh pv ok.va _ ko w.va.houses 0 (by omega) ⟨_, rfl, ko, fin⟩)
      · rw [if_neg z3, if_neg z0, if_neg z1, if_neg z2] at fin
        exact fin
    · refine T_X11_cell (d := 1297) _ _ ko ?_
      rw [← eg]
      have fin := q g (eb_fm.rfl kog) p
      have e34 : (34 : Int32) + nI c = nI (34 + c) := ec_9 34 c
      have e11 : (11 : Int32) + nI c = nI (11 + c) := ec_9 11 c
      rw [e34, e11, eb_cln (n := 34 + c) (by omega), eb_cln (n := 11 + c) (by omega)]
      refine ⟨fun _ => ⟨fun z3 => ⟨fun z0 => ⟨fun z1 => ?_, fun z1 => ⟨vp_in_nI (by omega) (by omega), ?_⟩⟩, fun z0 => ⟨vp_in_nI (by omega) (by omega), ?_⟩⟩, fun z3 => ?_⟩, fun z => absurd ((M_has p.va ok.va _).mpr hx) z⟩
      · rw [if_neg z3, if_neg z0, if_neg z1] at fin
        have e50 : eb_I g s_m_all (50 : Int32).toNatClampNeg = nI w.now.D := p.now.2.2.2.2.1.trans n3
        rw [e50, ec_bit1 (by omega) (by omega)]
        exact fin
      · rw [if_neg z3, if_neg z0, if_pos z1] at fin
        rw [show eb_I g s_m_all (34 + c) = w.now.th c from p.now.2.2.2.1 c (by omega)]
        exact fin
      · rw [if_neg z3, if_pos z0] at fin
        have e := p.va.2.2.2.2.2.2.2.1 c (by omega)
        rw [Nat.zero_add] at e
        rw [e]
        exact fin
      · rw [if_pos z3] at fin
        exact M_fh (d := 1297) p.va ok.va _ kog w.va.houses 0 (by omega) fin
  · refine ⟨-2, w, ok, by omega, eb_XS.of (fun h ko p Q q => ?_), eb_MS.of (fun h g ko eg kog p Q q => ?_)⟩
    · obtain ⟨v, ev, pv⟩ := p.va
      exact T_X10_cell (d := 1298) _ _ ko ⟨v, ev, pv.1.1, fun z => absurd ((X_has pv ok.va _).mp z) hx, fun _ => q h (eb_fx.rfl ko) p⟩
    · refine T_X11_cell (d := 1297) _ _ ko ?_
      rw [← eg]
      exact ⟨fun z => absurd ((M_has p.va ok.va _).mp z) hx, fun _ => q g (eb_fm.rfl kog) p⟩
end EBPAIRS5
