section EBMSTEP
def ec_mw (c : Nat) : Prop := c = s_m_words ∨ c = s_m_reckoned
theorem PMS.mvA {h h' : eb_H} {o : Nat} {s : eb_St} (p : PMS h o s) (e : eb_I h' s_m_all = eb_I h s_m_all) : PMS h' o s := by
  unfold PMS at p ⊢; rw [e]; exact p
theorem PML.mvA {h h' : eb_H} {B i : Nat} {l : Option (List Int32)} (p : PML h B i l) (e : eb_I h' s_m_all = eb_I h s_m_all) : PML h' B i l := by
  cases l with
  | none => unfold PML at p ⊢; rw [e]; exact p
  | some cs => unfold PML at p ⊢; rw [e]; exact p
theorem PMV.mvA {h h' : eb_H} {B : Nat} {V : eb_Va} (p : PMV h B V) (e : eb_I h' s_m_all = eb_I h s_m_all) : PMV h' B V := by
  obtain ⟨z1, z2, z3, z4, z5, z6, z7, z8, z9⟩ := p
  unfold PMV
  rw [e]
  exact ⟨z1, z2, z3, z4, z5, z6.mvA e, z7.mvA e, z8, z9⟩
theorem ec_fr.all {h h' : eb_H} (f : ec_fr ec_mw h h') : eb_I h' s_m_all = eb_I h s_m_all := f.2.2 _ (by unfold ec_mw; decide)
theorem ec_fr.fm {P : Nat → Prop} {h h' : eb_H} (ko : eb_KO h) (f : ec_fr P h h') (z : ∀ c, P c → eb_isM c) : eb_fm h h' := eb_fm.of ko f.1 (f.same (fun c y q => y (z c q)))
theorem ec_mw_isM (c : Nat) (z : ec_mw c) : eb_isM c := by
  rcases z with rfl | rfl
  · unfold eb_isM eb_ix s_m_words; omega
  · unfold eb_isM eb_ix s_m_reckoned; omega
theorem PM.fr {P : Nat → Prop} {w : eb_Wo} {h h' : eb_H} (p : PM w h) (f : ec_fr P h h') (z0 : ¬ P s_MO) (z : ∀ c, ec_pm c → ¬ P c) : PM w h' :=
  p.mvD (by rw [f.2.2 _ z0]) (by rw [f.2.2 _ z0]) (by rw [f.2.2 _ z0]) (fun c y => f.2.2 c (z c y)) (by rw [f.2.1])
theorem ec_pm_mw (c : Nat) (z : ec_pm c) : ¬ ec_mw c := by
  unfold ec_mw
  rcases z with rfl | rfl | rfl | rfl | rfl <;> decide
theorem PM.mw {w : eb_Wo} {h h' : eb_H} (p : PM w h) (f : ec_fr ec_mw h h') : PM w h' := p.fr f (by unfold ec_mw; decide) ec_pm_mw
theorem M_bits (e : Nat) (he : e < 64) {d : Nat} {h : eb_H} {Q : Option Value → eb_H → Prop} (ko : eb_KO h) (w : Q (some (.int (nI (ec_bc e)))) h) : eb_Ct d 194 [.int (nI e)] h Q := by
  have key : ∀ x : Int32, x = nI (ec_bc e) → Q (some (.int x)) h := fun x hx => by rw [hx]; exact w
  refine T_X11_bitsOf _ ko ?_
  refine b_X11_bitsOf_4 _ _ _ ko ⟨fun z => absurd z (by decide), fun _ => ?_⟩
  refine b_X11_bitsOf_4 _ _ _ ko ⟨fun z => absurd z (by decide), fun _ => ?_⟩
  refine b_X11_bitsOf_4 _ _ _ ko ⟨fun z => absurd z (by decide), fun _ => ?_⟩
  refine b_X11_bitsOf_4 _ _ _ ko ⟨fun z => absurd z (by decide), fun _ => ?_⟩
  refine b_X11_bitsOf_4 _ _ _ ko ⟨fun z => absurd z (by decide), fun _ => ?_⟩
  refine b_X11_bitsOf_4 _ _ _ ko ⟨fun z => absurd z (by decide), fun _ => ?_⟩
  refine b_X11_bitsOf_4 _ _ _ ko ⟨fun z => absurd z (by decide), fun _ => ?_⟩
  refine b_X11_bitsOf_4 _ _ _ ko ⟨fun z => absurd z (by decide), fun _ => ?_⟩
  refine b_X11_bitsOf_4 _ _ _ ko ⟨fun z => absurd z (by decide), fun _ => ?_⟩
  refine b_X11_bitsOf_4 _ _ _ ko ⟨fun z => absurd z (by decide), fun _ => ?_⟩
  refine b_X11_bitsOf_4 _ _ _ ko ⟨fun _ => key _ ?_, fun z => absurd (by decide) z⟩
  clear key w
  revert e
  decide +kernel
theorem ec_sq {c e : Nat} (he : e < 64) : (64 * c + e) / 64 = c ∧ (64 * c + e) % 64 = e := by omega
theorem ec_sI {c e : Nat} (hc : c < 16) (he : e < 64) : nI (64 * c + e) / 64 = nI c ∧ nI (64 * c + e) - nI (64 * c + e) / 64 * 64 = nI e := by
  have a : nI (64 * c + e) / nI 64 = nI ((64 * c + e) / 64) := pk_div (by omega) (by omega) (by omega)
  have b : nI (64 * c + e) - nI (64 * c + e) / nI 64 * nI 64 = nI ((64 * c + e) % 64) := pk_rem (by omega) (by omega) (by omega)
  rw [(ec_sq he).1] at a
  rw [(ec_sq he).2] at b
  exact ⟨a, b⟩
theorem M_cb {d : Nat} {h : eb_H} {Q : Option Value → eb_H → Prop} {V : eb_Va} (p : PMV h 0 V) (ok : eb_okV V) (c way : Nat) (hc : c < V.R * V.W) (hw : way < 4) (ko : eb_KO h) (w : Q (some (.int (ec_oi (ec_nb V.R V.W c way)))) h) : eb_Ct d 196 [.ref s_MO, .int (nI c), .int (nI way)] h Q := by
  obtain ⟨z1, z2, z3, _⟩ := p
  obtain ⟨r1, r2, r3, r4, r5, r6, r7, r8, r9, r10, _⟩ := ok.RW
  have eW : eb_I h s_m_all (2 : Int32).toNatClampNeg = nI V.W := z3.trans r2
  have eR : eb_I h s_m_all (1 : Int32).toNatClampNeg = nI V.R := z2.trans r1
  refine T_X11_cellBy (nI c) (nI way) ko ?_
  rw [eW, eR, ec_mod c V.W (by omega) (by omega) (by omega), pk_div (by omega) (by omega) (by omega)]
  have hm := Nat.mod_lt c r6
  have sW : nI V.W - 1 = nI (V.W - 1) := pk_sub (b := 1) r6
  have sR : nI V.R - 1 = nI (V.R - 1) := pk_sub (b := 1) r4
  have hd : c / V.W < V.R := Nat.div_lt_of_lt_mul (by rw [Nat.mul_comm]; exact hc)
  refine ⟨nI_ne0 r6 (by omega), nI_ne0 r6 (by omega), fun z => ?_, fun z => ?_, fun z => ?_, fun z0 z1 z2 => ?_⟩
  · have z : nI way = nI 0 := z
    rw [nI_eq (by omega) (by omega)] at z
    subst z
    have e : (if nI (c / V.W) = 0 then (-1) else nI c - nI V.W : Int32) = ec_oi (ec_nb V.R V.W c 0) := by
      rw [ec_nb0]
      by_cases q : c < V.W
      · rw [Nat.div_eq_of_lt q, if_pos nI_0, if_pos q]; rfl
      · have : 0 < c / V.W := Nat.div_pos (by omega) (by omega)
        rw [if_neg (nI_ne0 this (by omega)), if_neg q, pk_sub (by omega)]; rfl
    rw [e]; exact w
  · have z : nI way = nI 1 := z
    rw [nI_eq (by omega) (by omega)] at z
    subst z
    have e : (if nI (c % V.W) = nI V.W - 1 then (-1) else nI c + 1 : Int32) = ec_oi (ec_nb V.R V.W c 1) := by
      rw [ec_nb1, sW, nI_1]
      by_cases q : c % V.W + 1 = V.W
      · rw [if_pos (by rw [nI_eq (by omega) (by omega)]; omega), if_pos q]; rfl
      · rw [if_neg (by rw [nI_eq (by omega) (by omega)]; omega), if_neg q]; rfl
    rw [e]; exact w
  · have z : nI way = nI 2 := z
    rw [nI_eq (by omega) (by omega)] at z
    subst z
    have e : (if nI (c / V.W) = nI V.R - 1 then (-1) else nI c + nI V.W : Int32) = ec_oi (ec_nb V.R V.W c 2) := by
      rw [ec_nb2, sR, nI_add]
      have key : c / V.W = V.R - 1 ↔ ¬ c + V.W < V.R * V.W := by
        have h2 := Nat.div_add_mod c V.W
        generalize c / V.W = a at *
        generalize c % V.W = b at *
        rcases (by omega : V.W = 1 ∨ V.W = 2 ∨ V.W = 3 ∨ V.W = 4) with q | q | q | q <;> rw [q] at h2 hc hm ⊢ <;> omega
      by_cases q : c + V.W < V.R * V.W
      · rw [if_neg (by rw [nI_eq (by omega) (by omega)]; intro y; exact key.mp y q), if_pos q]; rfl
      · rw [if_pos (by rw [nI_eq (by omega) (by omega)]; exact key.mpr q), if_neg q]; rfl
    rw [e]; exact w
  · have hw3 : way = 3 := by
      rcases (by omega : way = 0 ∨ way = 1 ∨ way = 2 ∨ way = 3) with rfl | rfl | rfl | rfl
      · exact absurd rfl z0
      · exact absurd rfl z1
      · exact absurd rfl z2
      · rfl
    subst hw3
    have e : (if nI (c % V.W) = 0 then (-1) else nI c - 1 : Int32) = ec_oi (ec_nb V.R V.W c 3) := by
      rw [ec_nb3]
      by_cases q : c % V.W = 0
      · rw [if_pos q, q]; rfl
      · rw [if_neg (nI_ne0 (by omega) (by omega)), if_neg q]
        have : 1 ≤ c := by
          rcases Nat.eq_zero_or_pos c with y | y
          · exfalso; apply q; rw [y]; exact Nat.zero_mod _
          · exact y
        have e1 : nI c - 1 = nI (c - 1) := pk_sub (b := 1) this
        rw [e1]; rfl
    rw [e]; exact w
/-- a law of the reference is asked -/
theorem M_reck {d : Nat} {h : eb_H} {Q : Option Value → eb_H → Prop} {V : eb_Va} {s : eb_St} {cs : List Int32} (p : PMV h 0 V) (ps : PMS h 31 s) (ok : eb_okV V) (law : Nat) (hl : law < 2) (pl : PML h 0 law (some cs)) (okl : eb_okL (some cs)) (c e to : Nat) (hc : c < 16) (he : e < 64) (ht : to < 16) (ko : eb_KO h) (w : ∀ h', ec_fr ec_mw h h' → Q (some (.int (eb_q (ec_ok (some cs) (ec_wv V s c to (ec_bc e)) = true)))) h') : eb_Ct (d + 1) 198 [.ref s_MO, .int (nI law), .int (nI (64 * c + e)), .int (nI to)] h Q := by
  obtain ⟨z1, z2, z3, z4, z5, z6, z7, z8, z9⟩ := p
  obtain ⟨y1, y2, y3, y4, y5, y6⟩ := ps
  obtain ⟨t1, f, t2, t3, t4, t5⟩ := pl
  obtain ⟨n, hn, hT⟩ := okl cs rfl
  obtain ⟨vv, hv, s1, s2, s3, s4, s5⟩ := ec_isT (ec_wv V s c to (ec_bc e)) hT
  obtain ⟨q1, q2⟩ := ec_sI hc he
  have a1 : (11 : Int32) + nI to = nI (11 + to) := ec_9 11 to
  have a2 : (11 : Int32) + nI c = nI (11 + c) := ec_9 11 c
  have a3 : (34 : Int32) + nI to = nI (34 + to) := ec_9 34 to
  have qw : ec_mw s_m_words := Or.inl rfl
  have qr : ec_mw s_m_reckoned := Or.inr rfl
  have ne : s_m_all ≠ s_m_words := by decide
  refine T_X11_reckons (nI law) (nI (64 * c + e)) (nI to) ko ?_
  rw [q2, q1, a1, a2, a3, eb_cln (n := 11 + to) (by omega), eb_cln (n := 11 + c) (by omega), eb_cln (n := 34 + to) (by omega)]
  refine ⟨vp_in_nI (by omega) (by omega), vp_in_nI (by omega) (by omega), M_bits e he ko ⟨_, rfl, ko, vp_in_nI (by omega) (by omega), ?_⟩⟩
  simp only [eb_I_sIn ne]
  have e0 : eb_I h s_m_all (11 + to) = V.ht to := by have := z8 to ht; rw [Nat.zero_add] at this; exact this
  have e1 : eb_I h s_m_all (11 + c) = V.ht c := by have := z8 c hc; rw [Nat.zero_add] at this; exact this
  have e3 : eb_I h s_m_all (51 : Int32).toNatClampNeg = s.wind := y6
  have e5 : eb_I h s_m_all (34 + to) = s.th to := y4 to ht
  rw [e0, e1, e3, e5]
  have W : ∀ j, j < 6 → eb_I (eb_sI (eb_sI (eb_sI (eb_sI (eb_sI (eb_sI h s_m_words (0 : Int32).toNatClampNeg (V.ht to)) s_m_words (1 : Int32).toNatClampNeg (V.ht c)) s_m_words (2 : Int32).toNatClampNeg (nI (ec_bc e))) s_m_words (3 : Int32).toNatClampNeg s.wind) s_m_words (4 : Int32).toNatClampNeg (nI to)) s_m_words (5 : Int32).toNatClampNeg (s.th to)) s_m_words j = ec_wv V s c to (ec_bc e) j := by
    intro j hj
    rw [eb_I_sI, eb_I_sI, eb_I_sI, eb_I_sI, eb_I_sI, eb_I_sI]
    show (if j = 5 then s.th to else if j = 4 then nI to else if j = 3 then s.wind else if j = 2 then nI (ec_bc e) else if j = 1 then V.ht c else if j = 0 then V.ht to else _) = _
    unfold ec_wv ec_w6
    rcases (by omega : j = 0 ∨ j = 1 ∨ j = 2 ∨ j = 3 ∨ j = 4 ∨ j = 5) with rfl | rfl | rfl | rfl | rfl | rfl <;> rfl
  have F : ec_fr ec_mw h (eb_sI (eb_sI (eb_sI (eb_sI (eb_sI (eb_sI h s_m_words (0 : Int32).toNatClampNeg (V.ht to)) s_m_words (1 : Int32).toNatClampNeg (V.ht c)) s_m_words (2 : Int32).toNatClampNeg (nI (ec_bc e))) s_m_words (3 : Int32).toNatClampNeg s.wind) s_m_words (4 : Int32).toNatClampNeg (nI to)) s_m_words (5 : Int32).toNatClampNeg (s.th to)) := (((((ec_fr.rfl.sI qw).sI qw).sI qw).sI qw).sI qw).sI qw
  generalize eb_sI (eb_sI (eb_sI (eb_sI (eb_sI (eb_sI h s_m_words (0 : Int32).toNatClampNeg (V.ht to)) s_m_words (1 : Int32).toNatClampNeg (V.ht c)) s_m_words (2 : Int32).toNatClampNeg (nI (ec_bc e))) s_m_words (3 : Int32).toNatClampNeg s.wind) s_m_words (4 : Int32).toNatClampNeg (nI to)) s_m_words (5 : Int32).toNatClampNeg (s.th to) = g at W F
  have eA := F.all
  rw [Nat.zero_add] at t3 t4
  have M1 : eb_ML1 g law f cs.length (ec_wv V s c to (ec_bc e)) := ⟨hl, F.ko ko, by rw [eA]; exact t4, by rw [eA]; exact t3, t2, W⟩
  refine s5 d h g Q law f cs.length 0 0 M1 (by omega) (fun j hj => ?_) (Nat.le_refl _) (fun r r0 _ => ?_)
  · rw [eA]
    have := t5 j hj
    rw [Nat.zero_add] at this
    exact this
  · have F2 : ec_fr ec_mw h (eb_rI g s_m_reckoned r) := F.rI qr
    have e9 : ((9 : Int32) + nI law) = nI (9 + law) := ec_9 9 law
    refine b_X11_reckons_87 (nI law) _ _ (F2.ko ko) ?_
    rw [e9, eb_cln (n := 9 + law) (by omega), eb_I_rIn (by decide), eA, t4]
    refine ⟨vp_in_nI (by omega) (by omega), fun _ => ?_, fun z => ?_⟩
    · have e1 : eb_I (eb_rI g s_m_reckoned r) s_m_reckoned (0 : Int32).toNatClampNeg = vv := by rw [eb_I_rI]; exact r0
      rw [e1]
      have e2 : eb_q (vv = 1) = eb_q (ec_ok (some cs) (ec_wv V s c to (ec_bc e)) = true) := by
        show _ = eb_q (decide ((ec_run (ec_wv V s c to (ec_bc e)) cs []).headD 0 = 1) = true)
        rw [s3 []]
        rcases hv with rfl | rfl
        · rw [eb_qf (by decide), eb_qf (by decide)]
        · rw [eb_qt (by decide), eb_qt (by decide)]
      rw [e2]
      exact w _ F2
    · exfalso
      apply z
      rw [Nat.zero_add]
      exact nI_le (Nat.le_refl _) (by omega)
theorem M_why {d : Nat} {h : eb_H} {Q : Option Value → eb_H → Prop} {V : eb_Va} {s : eb_St} (p : PMV h 0 V) (ps : PMS h 31 s) (ok : eb_okV V) (os : eb_okS V s) (D c e way : Nat) (hD : D < 65536) (hc : c < V.R * V.W) (he : e < 64) (hw : way < 4) (ko : eb_KO h) (w : ∀ h', ec_fr ec_mw h h' → Q (some (.int (nI (ec_why V s D c e way)))) h') : eb_Ct (d + 2) 199 [.ref s_MO, .int (nI (64 * c + e)), .int (nI way), .int (nI D)] h Q := by
  obtain ⟨r1, r2, r3, r4, r5, r6, r7, r8, r9, r10, _⟩ := ok.RW
  obtain ⟨q1, q2⟩ := ec_sI (c := c) (by omega) he
  refine T_X11_whyBy _ _ _ ko ⟨fun _ => ?_, fun z => ?_⟩
  · rw [q1]
    refine M_cb p ok c way hc hw ko ⟨_, rfl, ko, ?_⟩
    have ww := fun h' F => w h' F
    unfold ec_why at ww
    cases hn : ec_nb V.R V.W c way with
    | none =>
      rw [hn] at ww
      exact ⟨fun z => absurd rfl z, fun _ => ww h ec_fr.rfl⟩
    | some to =>
      rw [hn] at ww
      dsimp only at ww
      have hto : to < V.R * V.W := ec_nb_lt hc r6 hn
      refine ⟨fun _ => ?_, fun z => absurd z (ec_m1 (n := to) (by omega))⟩
      show (¬ (((nI D).toInt64 >>> ((nI to).toInt64 &&& 63)) &&& 1 = 1) → _) ∧ (((nI D).toInt64 >>> ((nI to).toInt64 &&& 63)) &&& 1 = 1 → _)
      rw [ec_lbit (by omega) (by omega), ec_lN1]
      refine ⟨fun z => ?_, fun z => ?_⟩
      · rw [if_neg z] at ww
        have p6 := p.2.2.2.2.2.1
        cases hq : V.may with
        | none =>
          rw [hq] at p6
          have p6' : eb_I h s_m_all (5 : Int32).toNatClampNeg = 0 := p6
          refine ⟨fun _ => ?_, fun y => absurd p6' y⟩
          have := ww h ec_fr.rfl
          rw [if_pos (by unfold ec_may; rw [hq]; rfl)] at this
          exact this
        | some cs =>
          rw [hq] at p6
          have p6' : eb_I h s_m_all (5 : Int32).toNatClampNeg = 1 := p6.1
          refine ⟨fun y => ?_, fun _ => ?_⟩
          · rw [p6'] at y
            exact absurd y (by decide)
          · refine M_reck p ps ok 0 (by omega) p6 (by have := ok.may; rw [hq] at this; exact this) c e to (by omega) he (by omega) ko (fun h' F => ⟨_, rfl, F.ko ko, ?_⟩)
            have := ww h' F
            by_cases hm : ec_may V s c e to = true
            · rw [if_pos hm] at this
              unfold ec_may at hm
              rw [hq] at hm
              rw [eb_qt hm, if_neg (by decide)]
              exact this
            · rw [if_neg hm] at this
              unfold ec_may at hm
              rw [hq] at hm
              rw [eb_qf hm, if_pos rfl]
              exact this
      · have := ww h ec_fr.rfl
        rw [if_pos z] at this
        exact this
  · exfalso
    apply z
    rw [eb_l64a, eb_l64b, eb_z64, eb_d3, nI_toInt (by omega)]
    omega
theorem M_st {d : Nat} {h : eb_H} {Q : Option Value → eb_H → Prop} {V : eb_Va} {s : eb_St} (p : PMV h 0 V) (ps : PMS h 31 s) (ok : eb_okV V) (os : eb_okS V s) (c e way to : Nat) (hc : c < V.R * V.W) (he : e < 64) (hw : way < 4) (hn : ec_nb V.R V.W c way = some to) (ko : eb_KO h) (w : ∀ h', ec_fr ec_mw h h' → Q (some (.int (nI (64 * to + ec_ne V s c e to)))) h') : eb_Ct (d + 2) 200 [.ref s_MO, .int (nI (64 * c + e)), .int (nI way)] h Q := by
  obtain ⟨r1, r2, r3, r4, r5, r6, r7, r8, r9, r10, _⟩ := ok.RW
  obtain ⟨_, _, _, _, _, _, n7⟩ := os.N ok
  obtain ⟨q1, q2⟩ := ec_sI (c := c) (by omega) he
  have hto : to < V.R * V.W := ec_nb_lt hc r6 hn
  obtain ⟨k1, k2⟩ := n7 to (by omega)
  have hbc := ec_bc_le e
  have a3 : (34 : Int32) + nI to = nI (34 + to) := ec_9 34 to
  have e5 : eb_I h s_m_all (34 + to) = nI (s.k to) := (ps.2.2.2.1 to (by omega)).trans k1
  have hB : eb_I h s_m_all (3 : Int32).toNatClampNeg = nI V.B := p.2.2.2.1.trans r3
  have nol : ec_tn V s c e to = 0 → nI (64 * to + ec_ne V s c e to) = (64 : Int32) * nI to + nI e := fun z => by
    unfold ec_ne
    rw [z, show e ||| ec_bt 0 = e from Nat.or_zero e, ← nI_add, ← pk_mul]
    rfl
  have yesl : ec_tn V s c e to = s.k to → 1 ≤ s.k to → nI (64 * to + ec_ne V s c e to) = (64 : Int32) * nI to + (nI e ||| ((1 : Int32) <<< ((nI (s.k to) - 1) &&& 31))) := fun z z1 => by
    have b := ec_btI (s.k to) (by omega)
    rw [if_pos (show (1 : Int32) ≤ nI (s.k to) from nI_le (a := 1) z1 (by omega))] at b
    have ob := ec_or_lt 0 (by omega) (s.k to) (by omega)
    rw [Nat.zero_or] at ob
    unfold ec_ne
    rw [b, ec_or (by omega) (by omega), z, ← nI_add, ← pk_mul]
    rfl
  refine T_X11_stepTo _ _ ko ?_
  rw [q2, q1]
  refine M_cb p ok c way hc hw ko ⟨_, rfl, ko, ?_⟩
  rw [hn]
  show vp_in ((34 : Int32) + nI to) 3492 ∧ _
  simp only [ec_oi]
  rw [a3, eb_cln (n := 34 + to) (by omega), e5]
  refine ⟨vp_in_nI (by omega) (by omega), fun z => ?_, fun z => ?_⟩
  · have hk : s.k to = 0 := by
      have z : nI (s.k to) ≤ nI 0 := z
      rw [nI_leI (by omega) (by omega)] at z
      omega
    have := w h ec_fr.rfl
    rw [nol (by unfold ec_tn; rw [hk]; split <;> rfl)] at this
    exact this
  · have hk : 1 ≤ s.k to := by
      refine Nat.one_le_iff_ne_zero.mpr fun y => z ?_
      rw [y]; exact Int32.le_refl _
    have sk : nI (s.k to) - 1 = nI (s.k to - 1) := pk_sub (b := 1) hk
    rw [sk, ec_lbit (by omega) (by omega), ec_lN1, ← sk]
    refine ⟨fun y => ?_, fun y => M_bits e he ko ⟨_, rfl, ko, ?_⟩⟩
    · have := w h ec_fr.rfl
      rw [nol (by unfold ec_tn; rw [if_neg (by omega)])] at this
      exact this
    · have hb0 : e / 2 ^ (s.k to - 1) % 2 = 0 := by omega
      rw [hB]
      refine ⟨fun x => ?_, fun x => ?_⟩
      · rw [nI_leI (by omega) (by omega)] at x
        have := w h ec_fr.rfl
        rw [nol (by unfold ec_tn ec_tk; rw [if_neg]; intro u; have := u.1; simp at this; omega)] at this
        exact this
      · have x : ec_bc e < V.B := by
          rw [nI_leI (by omega) (by omega)] at x
          omega
        have p7 := p.2.2.2.2.2.2.1
        cases hq : V.takes with
        | none =>
          rw [hq] at p7
          have p7' : eb_I h s_m_all (6 : Int32).toNatClampNeg = 0 := p7
          refine ⟨fun _ => ?_, fun u => absurd p7' u⟩
          have := w h ec_fr.rfl
          rw [yesl (by unfold ec_tn; rw [if_pos ⟨by unfold ec_tk; rw [hq]; simp [hk, x, ec_ok], hb0⟩]) hk] at this
          exact this
        | some cs =>
          rw [hq] at p7
          have p7' : eb_I h s_m_all (6 : Int32).toNatClampNeg = 1 := p7.1
          refine ⟨fun u => ?_, fun _ => ?_⟩
          · rw [p7'] at u
            exact absurd u (by decide)
          · refine M_reck p ps ok 1 (by omega) p7 (by have := ok.takes; rw [hq] at this; exact this) c e to (by omega) he (by omega) ko (fun h' F => ⟨_, rfl, F.ko ko, ?_⟩)
            have := w h' F
            by_cases hm : ec_ok (some cs) (ec_wv V s c to (ec_bc e)) = true
            · rw [yesl (by unfold ec_tn; rw [if_pos ⟨by unfold ec_tk; rw [hq]; simp [hk, x, hm], hb0⟩]) hk] at this
              rw [eb_qt hm, if_pos (by decide)]
              exact this
            · rw [nol (by unfold ec_tn; rw [if_neg]; intro u; have := u.1; unfold ec_tk at this; rw [hq] at this; simp [hm] at this)] at this
              rw [eb_qf hm, if_neg (by decide)]
              exact this
end EBMSTEP
