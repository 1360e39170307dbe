section EBDEED4
theorem ec_qp {p : Prop} [Decidable p] {Q : Int32 → Prop} (hp : p) (w : Q 1) : Q (eb_q p) := by rw [eb_qt hp]; exact w
theorem ec_qn {p : Prop} [Decidable p] {Q : Int32 → Prop} (hp : ¬ p) (w : Q 0) : Q (eb_q p) := by rw [eb_qf hp]; exact w
theorem M_now {d : Nat} {h : eb_H} {Q : Option Value → eb_H → Prop} {V : eb_Va} {s : eb_St} (p : PMV h 0 V) (ps : PMS h 31 s) (ok : eb_okV V) (os : eb_okS V s) (way : Nat) (hw : way < 4) (ko : eb_KO h) (w : ∀ h', ec_fr ec_mw h h' → Q (some (.int (nI (ec_why V s s.D s.b s.e way)))) h') : eb_Ct (d + 3) 203 [.ref s_MO, .int (nI way)] h Q := by
  obtain ⟨n1, n2, n3, n4, n5, n6, n7⟩ := os.N ok
  obtain ⟨y1, y2, y3, y4, y5, y6⟩ := ps
  refine T_X11_whyNow _ ko ?_
  have e1 : eb_I h s_m_all (31 : Int32).toNatClampNeg = nI s.b := y1.trans n1
  have e2 : eb_I h s_m_all (32 : Int32).toNatClampNeg = nI s.e := y2.trans n2
  have e3 : eb_I h s_m_all (50 : Int32).toNatClampNeg = nI s.D := y5.trans n3
  have e4 : (64 : Int32) * nI s.b + nI s.e = nI (64 * s.b + s.e) := by
    have : (64 : Int32) * nI s.b = nI (64 * s.b) := pk_mul 64 s.b
    rw [this, nI_add]
  rw [e1, e2, e3, e4]
  exact M_why p ⟨y1, y2, y3, y4, y5, y6⟩ ok os s.D s.b s.e way n6 n4 n5 hw ko (fun h' F => ⟨_, rfl, F.ko ko, w h' F⟩)
theorem M_now1 {d : Nat} {h : eb_H} {Q : Option Value → eb_H → Prop} (x : Int32) (hx : ¬ (0 ≤ x.toInt ∧ x.toInt < 4)) (ko : eb_KO h) (w : Q (some (.int 1)) h) : eb_Ct (d + 3) 203 [.ref s_MO, .int x] h Q := by
  refine T_X11_whyNow _ ko (T_X11_whyBy _ _ _ ko ⟨fun z => ?_, fun _ => ⟨_, rfl, ko, w⟩⟩)
  exfalso
  rw [eb_l64a, eb_l64b, eb_z64, eb_d3] at z
  omega
theorem ec_stand {h : eb_H} {V : eb_Va} {s : eb_St} (ps : PMS h 31 s) (ok : eb_okV V) (os : eb_okS V s) : (64 : Int32) * (eb_I h s_m_all (31 : Int32).toNatClampNeg) + (eb_I h s_m_all (32 : Int32).toNatClampNeg) = nI (64 * s.b + s.e) := by
  obtain ⟨n1, n2, n3, n4, n5, n6, n7⟩ := os.N ok
  have e1 : eb_I h s_m_all (31 : Int32).toNatClampNeg = nI s.b := ps.1.trans n1
  have e2 : eb_I h s_m_all (32 : Int32).toNatClampNeg = nI s.e := ps.2.1.trans n2
  have : (64 : Int32) * nI s.b = nI (64 * s.b) := pk_mul 64 s.b
  rw [e1, e2, this, nI_add]
theorem M_flies {d : Nat} {h : eb_H} {Q : Option Value → eb_H → Prop} {V : eb_Va} {s : eb_St} (p : PMV h 0 V) (ps : PMS h 31 s) (ok : eb_okV V) (os : eb_okS V s) (way to : Nat) (hw : way < 4) (hn : ec_nb V.R V.W s.b way = some to) (ko : eb_KO h) (w : ∀ h', PMS h' 31 (ec_fl V s to) → ec_fr (fun c => ec_mw c ∨ c = s_m_all) h h' → (∀ q, (q < 31 ∨ 52 ≤ q) → eb_I h' s_m_all q = eb_I h s_m_all q) → Q none h') : eb_Ct (d + 3) 209 [.ref s_MO, .int (nI way)] h Q := by
  obtain ⟨n1, n2, n3, n4, n5, n6, n7⟩ := os.N ok
  obtain ⟨r1, r2, r3, r4, r5, r6, r7, r8, r9, r10, _⟩ := ok.RW
  have hto := ec_nb_lt n4 r6 hn
  have hne := ec_ne_lt (V := V) (s := s) (c := s.b) (e := s.e) (to := to) n5 (n7 to (by omega)).2
  refine T_X11_flies _ ko ?_
  rw [ec_stand ps ok os]
  refine M_st p ps ok os s.b s.e way to n4 n5 hw hn ko (fun h1 F => ⟨_, rfl, F.ko ko, ?_⟩)
  obtain ⟨q1, q2⟩ := ec_sI (c := to) (by omega) hne
  rw [q2, q1, ec_t31, ec_t32, ec_t33]
  have ps1 : PMS h1 31 s := ps.mvA F.all
  have e33 : eb_I (eb_sI (eb_sI h1 s_m_all 31 (nI to)) s_m_all 32 (nI (ec_ne V s s.b s.e to))) s_m_all 33 = s.steps := by
    rw [eb_I_sI, if_neg (by decide), eb_I_sI, if_neg (by decide)]
    exact ps1.2.2.1
  rw [e33]
  have F2 : ec_fr (fun c => ec_mw c ∨ c = s_m_all) h h1 := F.weak (fun c z => Or.inl z)
  refine w _ ?_ (((F2.sI (Or.inr rfl)).sI (Or.inr rfl)).sI (Or.inr rfl)) (fun q hq => ?_)
  · have := ((ps1.set (k := 0) (by omega) (nI to)).set (k := 1) (by omega) (nI (ec_ne V s s.b s.e to))).set (k := 2) (by omega) (s.steps + 1)
    have ef : ec_set (ec_set (ec_set s 0 (nI to)) 1 (nI (ec_ne V s s.b s.e to))) 2 (s.steps + 1) = ec_fl V s to := by
      funext j
      unfold ec_fl ec_set
      rcases (by omega : j = 0 ∨ j = 1 ∨ j = 2 ∨ 3 ≤ j) with rfl | rfl | rfl | q
      · rfl
      · rfl
      · rfl
      · rw [if_neg (by omega), if_neg (by omega), if_neg (by omega), if_neg (by omega), if_neg (by omega), if_neg (by omega)]
    rw [ef] at this
    exact this
  · rw [eb_I_sI, if_neg (by omega), eb_I_sI, if_neg (by omega), eb_I_sI, if_neg (by omega), F.all]
theorem ec_cellsL {h : eb_H} {V : eb_Va} (p : PMV h 0 V) (ok : eb_okV V) : (((eb_I h s_m_all (1 : Int32).toNatClampNeg) * (eb_I h s_m_all (2 : Int32).toNatClampNeg)) - 1).toInt64 = lN (V.R * V.W - 1) := by
  obtain ⟨r1, r2, r3, r4, r5, r6, r7, r8, r9, r10, _⟩ := ok.RW
  have e1 : eb_I h s_m_all (1 : Int32).toNatClampNeg = nI V.R := p.2.1.trans r1
  have e2 : eb_I h s_m_all (2 : Int32).toNatClampNeg = nI V.W := p.2.2.1.trans r2
  have h1 : 1 ≤ V.R * V.W := Nat.mul_pos r4 r6
  have : nI V.R * nI V.W - 1 = nI (V.R * V.W - 1) := by
    rw [pk_mul]
    exact pk_sub (b := 1) h1
  rw [e1, e2, this, nI_l (by omega)]
theorem M_wn {d : Nat} {h : eb_H} {Q : Option Value → eb_H → Prop} {V : eb_Va} {s : eb_St} (p : PMV h 0 V) (ps : PMS h 31 s) (ok : eb_okV V) (os : eb_okS V s) (x : Int64) (ko : eb_KO h) (w : ∀ h', ec_fr ec_mw h h' → Q (some (.int (nI (ec_dw V s (ec_xn x))))) h') : eb_Ct (d + 4) 218 [.ref s_MO, .long x] h Q := by
  obtain ⟨r1, r2, r3, r4, r5, r6, r7, r8, r9, r10, _⟩ := ok.RW
  have h1 : 1 ≤ V.R * V.W := Nat.mul_pos r4 r6
  refine T_X11_whyNot x ko ?_
  rw [ec_cellsL p ok]
  by_cases neg : x < 0
  · have xn : ec_xn x = 5 := by unfold ec_xn; rw [if_pos neg]
    have q1 : Q (some (.int 1)) h := by
      have := w h ec_fr.rfl
      rw [xn] at this
      exact this
    have n0 : x.toInt < 0 := by rw [Int64.lt_iff_toInt_lt, eb_z64] at neg; exact neg
    have lt : ∀ c : Int64, 0 ≤ c.toInt → x < c := fun c hc => by rw [Int64.lt_iff_toInt_lt]; omega
    refine ⟨fun _ => ⟨fun _ => ⟨fun _ => ?_, fun z => absurd (lt _ (by decide)) z.1⟩, fun z => absurd (lt _ (by decide)) z.1⟩, fun z => absurd neg z.1⟩
    exact ec_qp (Q := fun y => Q (some (.int y)) h) (Or.inl (fun z => z.1 (lt _ (by decide)))) q1
  · obtain ⟨k, hk, rfl⟩ := pk_lOf neg
    rw [ec_xn_lN hk] at w
    have lt : ∀ c, c < 2 ^ 63 → (lN k < lN c ↔ k < c) := fun c hc => pk_lLT hk hc
    have gt : ∀ c, c < 2 ^ 63 → (lN c < lN k ↔ c < k) := fun c hc => pk_lLT hc hk
    have g3 : (3 : Int64) < lN k ↔ 3 < k := gt 3 (by decide)
    have l100 : lN k < (100 : Int64) ↔ k < 100 := lt 100 (by decide)
    have g299 : (299 : Int64) < lN k ↔ 299 < k := gt 299 (by decide)
    have l300 : lN k < (300 : Int64) ↔ k < 300 := lt 300 (by decide)
    have g309 : (309 : Int64) < lN k ↔ 309 < k := gt 309 (by decide)
    have l1000 : lN k < (1000 : Int64) ↔ k < 1000 := lt 1000 (by decide)
    have g1999 : (1999 : Int64) < lN k ↔ 1999 < k := gt 1999 (by decide)
    have nn : ∀ m, m < 2 ^ 63 → ¬ lN m < (0 : Int64) := fun m hm z => by
      have z : lN m < lN 0 := z
      rw [pk_lLT hm (by decide)] at z
      omega
    rw [g3]
    unfold ec_dw at w
    refine ⟨fun z => ⟨fun z2 => ⟨fun z3 => ?_, fun z3 => ?_⟩, fun z2 => ?_⟩, fun z => ?_⟩
    · rw [l100, g299] at z2
      rw [l300, g309] at z3
      have c4 : ¬ k < 4 := fun y => z ⟨neg, by omega⟩
      rw [if_neg c4, if_neg (by omega), if_neg (by omega)] at w
      by_cases c5 : 1000 ≤ k ∧ k < 2000
      · have e : lN k - 1000 = lN (k - 1000) := lN_sub (b := 1000) (by omega)
        have ed : lN (k - 1000) / 10 = lN ((k - 1000) / 10) := pk_lDiv (b := 10) (by omega) (by omega) (by omega)
        have em : lN k - lN k / 10 * 10 = lN (k % 10) := pk_lRem (b := 10) (by omega) (by omega) (by omega)
        have g6 : (6 : Int64) < lN (k % 10) ↔ 6 < k % 10 := pk_lLT (a := 6) (by decide) (by omega)
        have := w h ec_fr.rfl
        by_cases c6 : 1000 ≤ k ∧ k < 2000 ∧ (k - 1000) / 10 < V.R * V.W ∧ k % 10 ≤ 6
        · rw [if_pos c6] at this
          refine ec_qn (Q := fun y => Q (some (.int y)) h) ?_ this
          rw [em, e, ed, pk_lLT (by omega) (by omega), g6, l1000, g1999]
          intro y
          rcases y with y | y | y | y | y
          · omega
          · exact nn _ (by omega) y
          · omega
          · exact nn _ (by omega) y
          · omega
        · rw [if_neg c6] at this
          refine ec_qp (Q := fun y => Q (some (.int y)) h) ?_ this
          rw [em, e, ed, pk_lLT (by omega) (by omega), g6, l1000, g1999]
          by_cases c7 : (k - 1000) / 10 < V.R * V.W
          · exact Or.inr (Or.inr (Or.inr (Or.inr (by omega))))
          · exact Or.inr (Or.inr (Or.inl (by omega)))
      · have := w h ec_fr.rfl
        rw [if_neg (by omega)] at this
        refine ec_qp (Q := fun y => Q (some (.int y)) h) (Or.inl ?_) this
        rw [l1000, g1999]
        omega
    · rw [l300, g309] at z3
      have := w h ec_fr.rfl
      rw [if_neg (by omega), if_neg (by omega), if_pos (by omega)] at this
      exact this
    · rw [l100, g299] at z2
      have e : lN k - 100 = lN (k - 100) := lN_sub (b := 100) (by omega)
      have em : lN (k - 100) - lN (k - 100) / 100 * 100 = lN ((k - 100) % 100) := pk_lRem (b := 100) (by omega) (by omega) (by omega)
      have := w h ec_fr.rfl
      rw [if_neg (by omega), if_pos (by omega)] at this
      by_cases c6 : (k - 100) % 100 < V.R * V.W
      · rw [if_pos c6] at this
        refine ec_qn (Q := fun y => Q (some (.int y)) h) (fun y => y ?_) this
        rw [e, em, pk_lLT (by omega) (by omega)]
        exact ⟨nn _ (by omega), by omega⟩
      · rw [if_neg c6] at this
        refine ec_qp (Q := fun y => Q (some (.int y)) h) (fun y => ?_) this
        rw [e, em, pk_lLT (by omega) (by omega)] at y
        have := y.2
        omega
    · have c4 : k < 4 := by omega
      rw [if_pos c4] at w
      rw [lN_i]
      exact M_now p ps ok os k c4 ko (fun h' F => ⟨_, rfl, F.ko ko, w h' F⟩)
theorem M_do {d : Nat} {h : eb_H} {Q : Option Value → eb_H → Prop} {V : eb_Va} {s : eb_St} (p : PMV h 0 V) (ps : PMS h 31 s) (ok : eb_okV V) (os : eb_okS V s) (n : Nat) (hd : ec_dw V s n = 0) (ko : eb_KO h) (w : ∀ h', PMS h' 31 (ec_ds V s n) → ec_fr (fun c => ec_mw c ∨ c = s_m_all) h h' → (∀ q, (q < 31 ∨ 52 ≤ q) → eb_I h' s_m_all q = eb_I h s_m_all q) → Q none h') : eb_Ct (d + 4) 219 [.ref s_MO, .int (nI n)] h Q := by
  obtain ⟨n1, n2, n3, n4, n5, n6, n7⟩ := os.N ok
  obtain ⟨r1, r2, r3, r4, r5, r6, r7, r8, r9, r10, _⟩ := ok.RW
  have w := w
  unfold ec_dw at hd
  unfold ec_ds at w
  have le : ∀ c : Nat, c < 2 ^ 31 → n < 2 ^ 31 → (nI c ≤ nI n ↔ c ≤ n) := fun c hc hn => nI_leI hc hn
  have hn : n < 2000 := by
    refine Classical.byContradiction fun z => ?_
    rw [if_neg (by omega), if_neg (by omega), if_neg (by omega), if_neg (by omega)] at hd
    exact absurd hd (by decide)
  have l4 : (4 : Int32) ≤ nI n ↔ 4 ≤ n := le 4 (by decide) (by omega)
  have l200 : (200 : Int32) ≤ nI n ↔ 200 ≤ n := le 200 (by decide) (by omega)
  have l300 : (300 : Int32) ≤ nI n ↔ 300 ≤ n := le 300 (by decide) (by omega)
  have l310 : (310 : Int32) ≤ nI n ↔ 310 ≤ n := le 310 (by decide) (by omega)
  refine T_X11_does _ ko ?_
  rw [l4, l200, l300, l310]
  refine ⟨fun z4 => ⟨fun z2 => ⟨fun z3 => ⟨fun z31 => ?_, fun z31 => ?_⟩, fun z3 => ?_⟩, fun z2 => ?_⟩, fun z4 => ?_⟩
  · rw [if_neg (by omega), if_neg (by omega), if_neg (by omega), if_neg (by omega)] at w
    have c6 : 1000 ≤ n ∧ n < 2000 ∧ (n - 1000) / 10 < V.R * V.W ∧ n % 10 ≤ 6 := by
      refine Classical.byContradiction fun z => ?_
      rw [if_neg (by omega), if_neg (by omega), if_neg (by omega), if_neg z] at hd
      exact absurd hd (by decide)
    have e : nI n - 1000 = nI (n - 1000) := pk_sub (b := 1000) (by omega)
    have ed : nI (n - 1000) / 10 = nI ((n - 1000) / 10) := pk_div (d := 10) (by omega) (by omega) (by omega)
    have em : nI n - nI n / 10 * 10 = nI (n % 10) := pk_rem (d := 10) (by omega) (by omega) (by omega)
    have e34 : (34 : Int32) + nI ((n - 1000) / 10) = nI (34 + (n - 1000) / 10) := ec_9 34 _
    rw [e, em, ed, e34, eb_cln (by omega)]
    refine ⟨vp_in_nI (by omega) (by omega), w _ ?_ (ec_fr.rfl.sI (Or.inr rfl)) (fun q hq => ?_)⟩
    · have := ps.set (k := 5 + (n - 1000) / 10) (by omega) (nI (n % 10))
      rw [show 31 + ec_po (5 + (n - 1000) / 10) = 34 + (n - 1000) / 10 by unfold ec_po; rw [if_neg (by omega), if_neg (by omega), if_neg (by omega)]; omega] at this
      exact this
    · rw [eb_I_sI, if_neg (by omega)]
  · rw [if_neg (by omega), if_neg (by omega), if_neg (by omega), if_pos (by omega)] at w
    have e : nI n - 300 = nI (n - 300) := pk_sub (b := 300) (by omega)
    rw [e, ec_t51]
    refine w _ (ps.set (k := 4) (by omega) _) (ec_fr.rfl.sI (Or.inr rfl)) (fun q hq => ?_)
    rw [eb_I_sI, if_neg (by omega)]
  · rw [if_neg (by omega), if_neg (by omega), if_pos (by omega)] at w
    have e : nI n - 200 = nI (n - 200) := pk_sub (b := 200) (by omega)
    have hc : n - 200 < V.R * V.W := by
      rw [if_neg (by omega), if_pos (by omega)] at hd
      refine Classical.byContradiction fun z => ?_
      rw [if_neg (by omega)] at hd
      exact absurd hd (by decide)
    have p2 := ec_p2 (j := n - 200) (by omega)
    have e50 : eb_I h s_m_all 50 = nI s.D := ps.2.2.2.2.1.trans n3
    rw [e, ec_t50, e50, ec_shl1 (by omega), ec_xor (by omega) p2]
    refine w _ (ps.set (k := 3) (by omega) _) (ec_fr.rfl.sI (Or.inr rfl)) (fun q hq => ?_)
    rw [eb_I_sI, if_neg (by omega)]
  · have hn1 : 100 ≤ n := by
      refine Classical.byContradiction fun z => ?_
      rw [if_neg (by omega), if_neg (by omega), if_neg (by omega), if_neg (by omega)] at hd
      exact absurd hd (by decide)
    rw [if_neg (by omega), if_pos (by omega)] at w
    have e : nI n - 100 = nI (n - 100) := pk_sub (b := 100) (by omega)
    rw [e, ec_t31, ec_t32]
    refine w _ ((ps.set (k := 0) (by omega) _).set (k := 1) (by omega) _) ((ec_fr.rfl.sI (Or.inr rfl)).sI (Or.inr rfl)) (fun q hq => ?_)
    rw [eb_I_sI, if_neg (by omega), eb_I_sI, if_neg (by omega)]
  · have c4 : n < 4 := by omega
    rw [if_pos c4] at w hd
    unfold ec_why at hd
    cases hnb : ec_nb V.R V.W s.b n with
    | none =>
      rw [hnb] at hd
      exact absurd hd (by dsimp only; decide)
    | some to =>
      rw [hnb] at w
      exact M_flies p ps ok os n to c4 hnb ko (fun h' a b c => ⟨rfl, b.ko ko, w h' a b c⟩)
end EBDEED4
