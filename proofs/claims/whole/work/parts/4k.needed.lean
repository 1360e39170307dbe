section EBNEED
variable {L : Nat} {xs : Nat → Int32}
theorem ec_g_inv {V : eb_Va} {s : eb_St} {D n y m : Nat} (h : ec_g V s D n y = some m) : ∃ to, ec_nb V.R V.W (n / 64) y = some to ∧ (¬ (D / 2 ^ to % 2 = 1)) ∧ ec_may V s (n / 64) (n % 64) to = true ∧ m = 64 * to + ec_ne V s (n / 64) (n % 64) to := by
  have wz : ec_why V s D (n / 64) (n % 64) y = 0 := by
    refine Classical.byContradiction fun z => ?_
    rw [ec_g_1 z] at h
    cases h
  obtain ⟨to, hb⟩ := ec_why_nb wz
  rw [ec_g_0 wz hb] at h
  cases h
  unfold ec_why at wz
  rw [hb] at wz
  dsimp only at wz
  by_cases z : D / 2 ^ to % 2 = 1
  · rw [if_pos z] at wz
    cases wz
  · rw [if_neg z] at wz
    by_cases u : ec_may V s (n / 64) (n % 64) to = true
    · exact ⟨to, hb, z, u, rfl⟩
    · rw [if_neg u] at wz
      cases wz
theorem ec_g_dr {V : eb_Va} {s : eb_St} {D n y m k : Nat} (ok : eb_okV V) (os : eb_okS V s) (hn : n < 64 * (V.R * V.W)) (h : ec_g V s D n y = some m) : (¬ (D / 2 ^ (m / 64) % 2 = 1)) ∧ (m / 64 ≠ k → ec_g V s (D ||| 2 ^ k) n y = some m) := by
  obtain ⟨r1, r2, r3, r4, r5, r6, r7, r8, r9, r10, _⟩ := ok.RW
  obtain ⟨n1, n2, n3, n4, n5, n6, n7⟩ := os.N ok
  obtain ⟨to, h1, h2, h3, h4⟩ := ec_g_inv h
  have hto := ec_nb_lt (show n / 64 < V.R * V.W by omega) r6 h1
  have hne := ec_ne_lt (V := V) (s := s) (c := n / 64) (e := n % 64) (to := to) (by omega) (n7 to (by omega)).2
  have m64 : m / 64 = to := by omega
  refine ⟨by rw [m64]; exact h2, fun hk => ?_⟩
  have wz : ec_why V s (D ||| 2 ^ k) (n / 64) (n % 64) y = 0 := by
    unfold ec_why
    rw [h1]
    dsimp only
    rw [if_neg, if_pos h3]
    intro z
    rw [ec_tbd, Nat.testBit_or, Nat.testBit_two_pow, Bool.or_eq_true, decide_eq_true_iff] at z
    rcases z with z | z
    · exact h2 (ec_tbd.mpr z)
    · omega
  rw [ec_g_0 wz h1, h4]
theorem ec_tr.av {g g' : Nat → Nat → Option Nat} {s0 N : Nat} {G : Nat → Prop} {D : Nat} {st wy : Nat → Nat} (t : ec_tr g s0 N G D st wy) (hg : ∀ j, j < D → g' (st (j + 1)) (wy j) = some (st j)) : ec_rc g' s0 (st 0) := by
  have key : ∀ i, i ≤ D → ec_rc g' s0 (st (D - i)) := by
    intro i
    induction i with
    | zero =>
      intro _
      rw [Nat.sub_zero, t.1.2.1]
      exact ec_rc.base g' s0
    | succ i ih =>
      intro hi
      have a := ih (by omega)
      have b := hg (D - (i + 1)) (by omega)
      rw [show D - (i + 1) + 1 = D - i by omega] at b
      exact a.step (t.2.2.1 (D - (i + 1)) (by omega)).1 b
  have := key D (Nat.le_refl _)
  rw [Nat.sub_self] at this
  exact this
theorem ec_andn32 {a b : Nat} (ha : a < 2 ^ 16) : ∃ n, n < 2 ^ 16 ∧ nI a &&& (nI b ^^^ (-1)) = nI n ∧ ∀ j, j < 16 → n.testBit j = (a.testBit j && !b.testBit j) := by
  obtain ⟨n, hn, e⟩ := wb_of32 (nI a &&& (nI b ^^^ (-1)))
  have all : ∀ j, j < 32 → n.testBit j = (a.testBit j && !b.testBit j) := fun j hj => by
    have e2 := congrArg (fun x : Int32 => x.toBitVec.getLsbD j) e
    have m1 : (-1 : Int32).toBitVec = BitVec.allOnes 32 := by decide
    have tb : ∀ n : Nat, (nI n).toBitVec = BitVec.ofNat 32 n := fun n => rfl
    simp only [Int32.toBitVec_and, Int32.toBitVec_xor, BitVec.getLsbD_and, BitVec.getLsbD_xor, tb, BitVec.getLsbD_ofNat, m1, BitVec.getLsbD_allOnes, hj, decide_true, Bool.true_and, Bool.xor_true] at e2
    exact e2.symm
  refine ⟨n, ?_, e, fun j hj => all j (by omega)⟩
  refine Nat.lt_pow_two_of_testBit n (fun j hj => ?_)
  by_cases h32 : j < 32
  · rw [all j h32, Nat.testBit_lt_two_pow (x := a) (Nat.lt_of_lt_of_le ha (Nat.pow_le_pow_right (by decide) hj))]
    rfl
  · exact Nat.testBit_lt_two_pow (Nat.lt_of_lt_of_le hn (Nat.pow_le_pow_right (by decide) (by omega)))
theorem ec_FL.sD {V : eb_Va} {s : eb_St} {D : Nat} {h : eb_H} (f : ec_FL V s D h) (D' : Nat) : ec_FL V s D' (eb_sI h s_flights 2 (nI D')) := by
  obtain ⟨⟨v, ev, pv⟩, ps, e2, ca⟩ := f
  have F : ec_fr (fun c => c = s_flights) h (eb_sI h s_flights 2 (nI D')) := ec_fr.rfl.sI rfl
  refine ⟨⟨v, ev, pv.fr F (fun c z y => by rw [y] at z; unfold eb_isV eb_ix s_flights at z; omega)⟩, ps.fr F (by decide) (by decide), eb_I_sI', ?_⟩
  rw [eb_I_sIn (by decide)]
  exact ca
/-- a cell that it can't do without -/
def ec_ndP (w : eb_Wo) (c a b k : Nat) : Prop := ((k ≠ c ∧ k ≠ w.now.b) ∧ (¬ (w.now.D / 2 ^ k % 2 = 1)) ∧ k < w.va.R * w.va.W) ∧ ∀ m, ec_rc (ec_g w.va w.now (w.now.D ||| 2 ^ k)) (64 * w.now.b + w.now.e) m → ¬ ec_goal c a b m
noncomputable def ec_ndd (w : eb_Wo) (c a b : Nat) : Nat := ec_bsn (ec_ndP w c a b) 16
theorem M_cc {d : Nat} {g : eb_H} {Q : Option Value → eb_H → Prop} {w : eb_Wo} (p : PM w g) (ok : eb_okW w) (kog : eb_KO g) (D : Nat) (hD : D < 65536) (c a b : Nat) (hc : c < 16) (ha : a < 64) (hb : b < 64) (q1 : ∀ g', ec_fr ec_mr g g' → (∃ m, ec_rc (ec_g w.va w.now D) (64 * w.now.b + w.now.e) m ∧ ec_goal c a b m) → Q (some (.int 1)) g') (q0 : ∀ g', ec_fr ec_mr g g' → (∀ m, ec_rc (ec_g w.va w.now D) (64 * w.now.b + w.now.e) m → ¬ ec_goal c a b m) → Q (some (.int 0)) g') : eb_Ct (d + 6) 240 [.ref s_MO, .int (nI c), .int (nI a), .int (nI b), .int (nI D)] g Q := by
  obtain ⟨r1, r2, r3, r4, r5, r6, r7, r8, r9, r10, _⟩ := ok.va.RW
  refine T_X11_canCome (d := d + 4) _ _ _ _ kog (M_lr (d := d + 1) p ok kog D hD (fun g' F rc => ⟨rfl, F.ko kog, ?_⟩))
  have pg := p.mr F
  have eR : eb_I g' s_m_all (1 : Int32).toNatClampNeg = nI w.va.R := pg.va.2.1.trans r1
  have eW : eb_I g' s_m_all (2 : Int32).toNatClampNeg = nI w.va.W := pg.va.2.2.1.trans r2
  have cells : (64 : Int32) * ((eb_I g' s_m_all (1 : Int32).toNatClampNeg) * (eb_I g' s_m_all (2 : Int32).toNatClampNeg)) = nI (64 * (w.va.R * w.va.W)) := by
    rw [eR, eW, pk_mul, show (64 : Int32) * nI (w.va.R * w.va.W) = nI (64 * (w.va.R * w.va.W)) from pk_mul 64 _]
  have key : ∀ (m n : Nat), n + m = 64 * (w.va.R * w.va.W) → (∀ k, k < n → ec_rc (ec_g w.va w.now D) (64 * w.now.b + w.now.e) k → ¬ ec_goal c a b k) → eb_Sn (d + 6) m_X11_canCome g 9 [(0, .ref s_MO), (1, .int (nI c)), (2, .int (nI a)), (3, .int (nI b)), (5, .int (nI n))] [] g' Q := by
    intro m
    induction m with
    | zero =>
      intro n hn no
      refine b_X11_canCome_9 (d := d + 4) _ _ _ _ (F.ko kog) ?_
      rw [cells]
      refine ⟨fun _ => q0 g' F (fun m hm => no m (by have := ec_rc_lt ok.va ok.now hm; omega) hm), fun z => absurd (nI_le (by omega) (by omega)) z⟩
    | succ m ih =>
      intro n hn no
      refine b_X11_canCome_9 (d := d + 4) _ _ _ _ (F.ko kog) ?_
      rw [cells, eb_cln (n := n) (by omega), ec_glM (by omega) hc ha hb, nI_1]
      refine ⟨fun z => absurd z (nI_ge (by omega) (by omega)), fun _ => ⟨vp_in_nI (by omega) (by omega), fun z => ih (n + 1) (by omega) (fun k hk u => ?_), fun z => ⟨fun x => ih (n + 1) (by omega) (fun k hk u => ?_), fun x => q1 g' F ⟨n, ?_, x⟩⟩⟩⟩
      · by_cases e : k = n
        · rw [e] at u
          exact absurd u ((rc n (by omega)).mp z)
        · exact no k (by omega) u
      · by_cases e : k = n
        · rw [e]; exact x
        · exact no k (by omega) u
      · exact Classical.byContradiction fun u => z ((rc n (by omega)).mpr u)
  exact key _ 0 (Nat.zero_add _) (fun k hk => absurd hk (by omega))
/-- 21: needed -/
theorem c_needed (k : Nat) (h : eb_H) (v1 v2 v3 : Int32) (inv : eb_Inv L xs k h) : eb_Pr 115 241 [.int v1, .int v2, .int v3] (eb_Inv L xs (k + 1)) h := by
  refine eb_pr2 inv (fun w ok => ?_)
  obtain ⟨r1, r2, r3, r4, r5, r6, r7, r8, r9, r10, _⟩ := ok.va.RW
  obtain ⟨n1, n2, n3, n4, n5, n6, n7⟩ := ok.now.N ok.va
  by_cases hC : ec_okC w v1
  · by_cases hE : ec_okE v2 v3
    · obtain ⟨c, a, b, ⟨hc, rfl⟩, ⟨ha, rfl⟩, ⟨hb, rfl⟩⟩ := ec_nums hC hE
      have dor : ∀ k, k < 16 → w.now.D ||| 2 ^ k < 65536 := fun k hk => Nat.or_lt_two_pow (n := 16) n6 (wb_lt2 hk)
      refine ⟨fun y w' => w' = w ∧ ((y = 0 ∧ ec_no w c a b) ∨ (¬ ec_no w c a b ∧ y = nI (ec_ndd w c a b))), ?_, fun h ko p => ?_, ?_⟩
      · rintro y w' ⟨rfl, _⟩
        exact ⟨ok, by omega⟩
      · refine T_X10_needed (d := 1298) _ _ _ ko (C_cr (d := 1296) p ok _ _ _ ko (fun _ _ => ⟨_, rfl, ko, fun _ => ?_, fun z => absurd rfl z⟩) (fun _ z => absurd hE z) (fun z => absurd hC z))
        refine C_co (d := 1291) p ko ok c a b hc ha hb (fun h2 ff fl no => ⟨_, rfl, ff.1, fun z => absurd z (by decide), fun _ => ⟨_, w, rfl, ff.fx, ff.px p, rfl, Or.inl ⟨rfl, no⟩⟩⟩) (fun h2 D st wy ff fl t e5 et e3 => ⟨_, rfl, ff.1, ?_⟩)
        have yes : ¬ ec_no w c a b := fun no => by
          obtain ⟨m, m1, m2⟩ := t.rc
          exact no m m1 m2
        have dN := t.1.1
        refine ⟨fun z => ?_, fun z => ?_⟩
        · have eb : eb_I h2 s_now 0 = nI w.now.b := (ff.px p).now.1.trans n1
          have cl : ec_bsn (fun c => ∃ j, j < D ∧ st j / 64 = c) 16 < 2 ^ 16 := ec_bsn_lt _ 16
          obtain ⟨A1, l1, g1, t1⟩ := ec_andn32 (b := 2 ^ w.now.b) cl
          obtain ⟨A2, l2, g2, t2⟩ := ec_andn32 (b := 2 ^ c) l1
          rw [e3, eb, ec_shl1 (by omega), g1, ec_shl1 (by omega), g2]
          have asked : ∀ k, k < 16 → (A2.testBit k = true ↔ ((∃ j, j < D ∧ st j / 64 = k) ∧ k ≠ w.now.b ∧ k ≠ c)) := fun k hk => by
            rw [t2 k hk, t1 k hk, Nat.testBit_two_pow, Nat.testBit_two_pow, Bool.and_eq_true, Bool.and_eq_true, ec_bsn_bit, Bool.not_eq_true', Bool.not_eq_true', decide_eq_false_iff_not, decide_eq_false_iff_not]
            constructor
            · rintro ⟨⟨⟨_, u⟩, v⟩, x⟩
              exact ⟨u, fun e => v e.symm, fun e => x e.symm⟩
            · rintro ⟨u, v, x⟩
              exact ⟨⟨⟨hk, u⟩, fun e => v e.symm⟩, fun e => x e.symm⟩
          have key : ∀ (m k R D2 : Nat) (g : eb_H), k + m = 16 → R < 2 ^ 16 → (∀ i, i < 16 → (R.testBit i = true ↔ i < k ∧ A2.testBit i = true ∧ ∀ m, ec_rc (ec_g w.va w.now (w.now.D ||| 2 ^ i)) (64 * w.now.b + w.now.e) m → ¬ ec_goal c a b m)) → ec_ff h g → ec_FL w.va w.now D2 g → eb_Sn 1299 m_X10_needed h 80 [(0, .ref s_EB), (1, .int (nI c)), (2, .int (nI a)), (3, .int (nI b)), (5, .int (nI A2)), (6, .int (nI R)), (7, .int (nI k))] [] g (fun r h' => ∃ y w', r = some (.int y) ∧ eb_fx h h' ∧ PX w' h' ∧ (w' = w ∧ ((y = 0 ∧ ec_no w c a b) ∨ (¬ ec_no w c a b ∧ y = nI (ec_ndd w c a b))))) := by
            intro m
            induction m with
            | zero =>
              intro k R D2 g hk hR bits fg flg
              refine b_X10_needed_80 (d := 1298) _ _ _ _ _ _ fg.1 ⟨fun _ => ⟨_, w, rfl, fg.fx, fg.px p, rfl, Or.inr ⟨yes, ?_⟩⟩, fun z => absurd (nI_le (a := 16) (by omega) (by omega)) z⟩
              rw [ec_bsn_u (P := ec_ndP w c a b) hR (fun i hi => ?_)]
              · rfl
              · rw [bits i hi, asked i hi]
                constructor
                · rintro ⟨_, ⟨⟨j, hj, ej⟩, u1, u2⟩, un⟩
                  have sn := t.2.1 j (by omega)
                  have sn1 := t.2.1 (j + 1) (by omega)
                  have dr := (ec_g_dr (k := 0) ok.va ok.now sn1 (t.2.2.1 j hj).2).1
                  rw [ej] at dr
                  exact ⟨⟨⟨u2, u1⟩, dr, by omega⟩, un⟩
                · rintro ⟨⟨⟨u2, u1⟩, u3, u4⟩, un⟩
                  refine ⟨by omega, ⟨?_, u1, u2⟩, un⟩
                  refine Classical.byContradiction fun nj => un (st 0) (t.av (fun j hj => ?_)) t.1.2.2
                  exact (ec_g_dr ok.va ok.now (t.2.1 (j + 1) (by omega)) (t.2.2.1 j hj).2).2 (fun e => nj ⟨j, hj, e⟩)
            | succ m ih =>
              intro k R D2 g hk hR bits fg flg
              have p16 : (2 : Nat) ^ k < 2 ^ 16 := wb_lt2 (by omega)
              have e3' : eb_I g s_now 3 = nI w.now.D := (fg.px p).now.2.2.2.1.trans n3
              have b0 : nI (A2 / 2 ^ k % 2) = 0 ↔ ¬ A2.testBit k = true := by
                have : nI (A2 / 2 ^ k % 2) = nI 0 ↔ A2 / 2 ^ k % 2 = 0 := nI_eq (by omega) (by omega)
                have t0 : nI (A2 / 2 ^ k % 2) = 0 ↔ A2 / 2 ^ k % 2 = 0 := this
                rw [t0, ← ec_tbd]
                omega
              refine b_X10_needed_80 (d := 1298) _ _ _ _ _ _ fg.1 ?_
              rw [ec_bit1 (by omega) (by omega), b0, e3', ec_shl1 (by omega), ec_or (by omega) (by omega), ec_or (by omega) (by omega), nI_1]
              refine ⟨fun z => absurd z (nI_ge (a := k) (b := 16) (by omega) (by omega)), fun _ => ⟨fun z => ?_, fun z => ?_⟩⟩
              · have z := Decidable.not_not.mp z
                have F0 : ec_fr (fun c => c = s_flights) g (eb_sI g s_flights 2 (nI (w.now.D ||| 2 ^ k))) := ec_fr.rfl.sI rfl
                have ff0 := fg.gf F0.gr (fun c z => by rw [z]; unfold ec_fs eb_ix s_flights; omega)
                refine C_tc (d := 1291) ok.va ok.now (w.now.D ||| 2 ^ k) (dor k (by omega)) (flg.sD _) c a b (by omega) ha hb ff0.1 (fun h3 F3 f3 no => ⟨_, rfl, F3.ko ff0.1, fun u => absurd rfl u, fun _ => ?_⟩) (fun h3 D3 st3 wy3 F3 f3 t3 _ _ _ => ⟨_, rfl, F3.ko ff0.1, fun _ => ?_, fun u => absurd u (ec_m1 (by have := t3.1.1; omega))⟩)
                · refine ih (k + 1) (R ||| 2 ^ k) _ h3 (by omega) (Nat.or_lt_two_pow hR p16) (fun i hi => ?_) (ff0.gf F3.gr ec_f6_s) f3
                  rw [Nat.testBit_or, Nat.testBit_two_pow, Bool.or_eq_true, bits i hi, decide_eq_true_iff]
                  constructor
                  · rintro (⟨x1, x2⟩ | x)
                    · exact ⟨by omega, x2⟩
                    · rw [← x]; exact ⟨by omega, z, no⟩
                  · rintro ⟨x1, x2⟩
                    by_cases e : k = i
                    · exact Or.inr e
                    · exact Or.inl ⟨by omega, x2⟩
                · refine ih (k + 1) R _ h3 (by omega) hR (fun i hi => ?_) (ff0.gf F3.gr ec_f6_s) f3
                  rw [bits i hi]
                  constructor
                  · rintro ⟨x1, x2⟩
                    exact ⟨by omega, x2⟩
                  · rintro ⟨x1, x2, x3⟩
                    refine ⟨?_, x2, x3⟩
                    have : i ≠ k := fun e => by
                      rw [e] at x3
                      obtain ⟨m3, y1, y2⟩ := t3.rc
                      exact x3 m3 y1 y2
                    omega
              · refine ih (k + 1) R D2 g (by omega) hR (fun i hi => ?_) fg flg
                rw [bits i hi]
                constructor
                · rintro ⟨x1, x2⟩
                  exact ⟨by omega, x2⟩
                · rintro ⟨x1, x2, x3⟩
                  refine ⟨?_, x2, x3⟩
                  have : i ≠ k := fun e => by
                    rw [e] at x2
                    exact z x2
                  omega
          exact key 16 0 0 _ h2 (by omega) (by omega) (fun i hi => by
            rw [Nat.zero_testBit]
            constructor
            · intro z; cases z
            · rintro ⟨x, _⟩; omega) ff fl
        · have d0 : D = 0 := by
            refine Classical.byContradiction fun u => z ?_
            exact nI_lt (a := 0) (by omega) (by omega)
          refine ⟨_, w, rfl, ff.fx, ff.px p, rfl, Or.inr ⟨yes, ?_⟩⟩
          have s0 : st 0 = 64 * w.now.b + w.now.e := by
            have := t.1.2.1
            rw [d0] at this
            exact this
          have : (0 : Nat) = ec_ndd w c a b := ec_bsn_u (P := ec_ndP w c a b) (by omega) (fun i hi => by
            rw [Nat.zero_testBit]
            constructor
            · intro z; cases z
            · intro u
              exfalso
              have g0 := t.1.2.2
              rw [s0] at g0
              exact u.2 _ (ec_rc.base _ _) g0)
          rw [← this]
          rfl
      · rintro y w' ⟨rfl, alt⟩
        refine eb_MS.of (fun h g ko eg kog p Q q => ?_)
        refine T_X11_needed (d := 1298) _ _ _ ko ?_
        rw [← eg]
        refine M_nc (d := 1296) p ok _ _ _ kog (fun _ _ => ⟨_, rfl, kog, fun _ => ?_, fun z => absurd rfl z⟩) (fun _ z => absurd hE z) (fun z => absurd hC z)
        have e50 : eb_I g s_m_all (50 : Int32).toNatClampNeg = nI w'.now.D := p.now.2.2.2.2.1.trans n3
        rw [e50]
        refine M_cc (d := 1292) p ok kog w'.now.D n6 c a b (by omega) ha hb (fun g' F ex => ⟨_, rfl, F.ko kog, fun _ => ?_, fun z => absurd z (by decide)⟩) (fun g' F no => ⟨_, rfl, F.ko kog, fun z => absurd rfl z, fun _ => ?_⟩)
        · have ey : y = nI (ec_ndd w' c a b) := by
            rcases alt with ⟨_, no⟩ | ⟨_, e⟩
            · obtain ⟨m, m1, m2⟩ := ex
              exact absurd m2 (no m m1)
            · exact e
          subst ey
          have key : ∀ (m k R : Nat) (g2 : eb_H), k + m = w'.va.R * w'.va.W → R < 2 ^ 16 → (∀ i, i < 16 → (R.testBit i = true ↔ i < k ∧ ec_ndP w' c a b i)) → ec_fr ec_mr g g2 → eb_Sn 1299 m_X11_needed h 48 [(0, .ref s_MO), (1, .int (nI c)), (2, .int (nI a)), (3, .int (nI b)), (5, .int (nI R)), (6, .int (nI k))] [] g2 Q := by
            intro m
            induction m with
            | zero =>
              intro k R g2 hk hR bits F2
              have pg := p.mr F2
              have eR : eb_I g2 s_m_all (1 : Int32).toNatClampNeg = nI w'.va.R := pg.va.2.1.trans r1
              have eW : eb_I g2 s_m_all (2 : Int32).toNatClampNeg = nI w'.va.W := pg.va.2.2.1.trans r2
              refine b_X11_needed_48 (d := 1298) _ _ _ _ _ (F2.ko kog) ?_
              rw [eR, eW, pk_mul]
              refine ⟨fun _ => ?_, fun z => absurd (nI_le (by omega) (by omega)) z⟩
              rw [ec_bsn_u (P := ec_ndP w' c a b) hR (fun i hi => ?_)]
              · exact q g2 (F2.fm kog ec_mr_M) pg
              · rw [bits i hi]
                exact ⟨fun z => z.2, fun z => ⟨by have := z.1.2.2; omega, z⟩⟩
            | succ m ih =>
              intro k R g2 hk hR bits F2
              have pg := p.mr F2
              have p16 : (2 : Nat) ^ k < 2 ^ 16 := wb_lt2 (by omega)
              have eR : eb_I g2 s_m_all (1 : Int32).toNatClampNeg = nI w'.va.R := pg.va.2.1.trans r1
              have eW : eb_I g2 s_m_all (2 : Int32).toNatClampNeg = nI w'.va.W := pg.va.2.2.1.trans r2
              have e31 : eb_I g2 s_m_all (31 : Int32).toNatClampNeg = nI w'.now.b := pg.now.1.trans n1
              have e50' : eb_I g2 s_m_all (50 : Int32).toNatClampNeg = nI w'.now.D := pg.now.2.2.2.2.1.trans n3
              have skip : ¬ ec_ndP w' c a b k → ∀ g3, ec_fr ec_mr g g3 → eb_Sn 1299 m_X11_needed h 48 [(0, .ref s_MO), (1, .int (nI c)), (2, .int (nI a)), (3, .int (nI b)), (5, .int (nI R)), (6, .int (nI (k + 1)))] [] g3 Q := fun nn g3 F3 => by
                refine ih (k + 1) R g3 (by omega) hR (fun i hi => ?_) F3
                rw [bits i hi]
                constructor
                · rintro ⟨x1, x2⟩; exact ⟨by omega, x2⟩
                · rintro ⟨x1, x2⟩
                  refine ⟨?_, x2⟩
                  have : i ≠ k := fun e => nn (by rw [← e]; exact x2)
                  omega
              refine b_X11_needed_48 (d := 1298) _ _ _ _ _ (F2.ko kog) ?_
              rw [eR, eW, pk_mul, e31, e50', ec_lbit (by omega) (by omega), ec_lN1, nI_eq (by omega) (by omega), nI_eq (by omega) (by omega), ec_shl1 (by omega), ec_or (by omega) (by omega), ec_or (by omega) (by omega), nI_1]
              refine ⟨fun z => absurd z (nI_ge (by omega) (by omega)), fun _ => ⟨fun z => skip (fun u => u.1.1.1 z) g2 F2, fun z1 => ⟨fun z => skip (fun u => u.1.1.2 z) g2 F2, fun z2 => ⟨fun z3 => ?_, fun z => skip (fun u => u.1.2.1 z) g2 F2⟩⟩⟩⟩
              refine M_cc (d := 1292) pg ok (F2.ko kog) _ (dor k (by omega)) c a b (by omega) ha hb (fun g3 F3 ex => ⟨_, rfl, F3.ko (F2.ko kog), fun _ => skip (fun u => ?_) g3 (F2.trans F3), fun z => absurd z (by decide)⟩) (fun g3 F3 no => ⟨_, rfl, F3.ko (F2.ko kog), fun z => absurd rfl z, fun _ => ?_⟩)
              · obtain ⟨m3, y1, y2⟩ := ex
                exact u.2 m3 y1 y2
              · refine ih (k + 1) (R ||| 2 ^ k) g3 (by omega) (Nat.or_lt_two_pow hR p16) (fun i hi => ?_) (F2.trans F3)
                rw [Nat.testBit_or, Nat.testBit_two_pow, Bool.or_eq_true, bits i hi, decide_eq_true_iff]
                constructor
                · rintro (⟨x1, x2⟩ | x)
                  · exact ⟨by omega, x2⟩
                  · rw [← x]; exact ⟨by omega, ⟨⟨z1, z2⟩, z3, by omega⟩, no⟩
                · rintro ⟨x1, x2⟩
                  by_cases e : k = i
                  · exact Or.inr e
                  · exact Or.inl ⟨by omega, x2⟩
          exact key _ 0 0 g' (Nat.zero_add _) (by omega) (fun i hi => by
            rw [Nat.zero_testBit]
            constructor
            · intro z; cases z
            · rintro ⟨x, _⟩; omega) F
        · have ey : y = 0 := by
            rcases alt with ⟨e, _⟩ | ⟨e, _⟩
            · exact e
            · exact absurd no e
          subst ey
          exact q g' (F.fm kog ec_mr_M) (p.mr F)
    · refine ⟨fun y w' => w' = w ∧ y = -3, ?_, fun h ko p => ?_, ?_⟩
      · rintro y w' ⟨rfl, _⟩
        exact ⟨ok, by omega⟩
      · exact T_X10_needed (d := 1298) _ _ _ ko (C_cr (d := 1296) p ok _ _ _ ko (fun _ z => absurd z hE) (fun _ _ => ⟨_, rfl, ko, fun z => absurd z (by decide), fun _ => ⟨_, w, rfl, eb_fx.rfl ko, p, rfl, rfl⟩⟩) (fun z => absurd hC z))
      · rintro y w' ⟨rfl, rfl⟩
        refine eb_MS.of (fun h g ko eg kog p Q q => ?_)
        refine T_X11_needed (d := 1298) _ _ _ ko ?_
        rw [← eg]
        exact M_nc (d := 1296) p ok _ _ _ kog (fun _ z => absurd z hE) (fun _ _ => ⟨_, rfl, kog, fun z => absurd z (by decide), fun _ => q g (eb_fm.rfl kog) p⟩) (fun z => absurd hC z)
  · refine ⟨fun y w' => w' = w ∧ y = -2, ?_, fun h ko p => ?_, ?_⟩
    · rintro y w' ⟨rfl, _⟩
      exact ⟨ok, by omega⟩
    · exact T_X10_needed (d := 1298) _ _ _ ko (C_cr (d := 1296) p ok _ _ _ ko (fun z _ => absurd z hC) (fun z _ => absurd z hC) (fun _ => ⟨_, rfl, ko, fun z => absurd z (by decide), fun _ => ⟨_, w, rfl, eb_fx.rfl ko, p, rfl, rfl⟩⟩))
    · rintro y w' ⟨rfl, rfl⟩
      refine eb_MS.of (fun h g ko eg kog p Q q => ?_)
      refine T_X11_needed (d := 1298) _ _ _ ko ?_
      rw [← eg]
      exact M_nc (d := 1296) p ok _ _ _ kog (fun z _ => absurd z hC) (fun z _ => absurd z hC) (fun _ => ⟨_, rfl, kog, fun z => absurd z (by decide), fun _ => q g (eb_fm.rfl kog) p⟩)
end EBNEED
