section EBSETS2
variable {L : Nat} {xs : Nat → Int32}
noncomputable def ec_hrd (w : eb_Wo) : Nat := ec_bsn (fun i => ∃ n, ec_rc (ec_g w.va w.now w.now.D) (64 * w.now.b + w.now.e) n ∧ (n % 64).testBit i = true) 6
/-- 23: heard -/
theorem c_heard (k : Nat) (h : eb_H) (inv : eb_Inv L xs k h) : eb_Pr 117 243 [] (eb_Inv L xs (k + 1)) h := by
  refine eb_pr inv (fun w ok => ?_)
  obtain ⟨r1, r2, r3, r4, r5, r6, r7, r8, r9, r10, _⟩ := ok.va.RW
  obtain ⟨n1, n2, n3, n4, n5, n6, n7⟩ := ok.now.N ok.va
  refine ⟨nI (ec_hrd w), w, ok, by omega, eb_XS.of (fun h ko p Q q => ?_), eb_MS.of (fun h g ko eg kog p Q q => ?_)⟩
  · refine T_X10_heard (d := 1298) ko ?_
    refine C_sp (d := 1292) p ko ok (fun h7 found ord pp pw ff fl b so => ⟨rfl, ff.1, ?_⟩)
    have fle := b.le
    have key : ∀ (m j A : Nat), j + m = found → A < 2 ^ 6 → (∀ i, i < 6 → (A.testBit i = true ↔ ∃ k, k < j ∧ (ord k % 64).testBit i = true)) → eb_Sn 1298 m_X1_echoesAnywhere h7 4 [(0, .ref s_flights), (1, .int (nI A)), (2, .int (nI j))] [] h7 (fun r h10 => ∃ y11, r = some (.int y11) ∧ eb_KO h10 ∧ Q (some (.int y11)) h10) := by
      intro m
      induction m with
      | zero =>
        intro j A hj hA a
        refine b_X1_echoesAnywhere_4 (d := 1297) _ _ ff.1 ?_
        rw [so.1]
        refine ⟨fun _ => ⟨_, rfl, ff.1, ?_⟩, fun z => absurd (nI_le (by omega) (by omega)) z⟩
        rw [ec_bsn_u (P := fun i => ∃ n, ec_rc (ec_g w.va w.now w.now.D) (64 * w.now.b + w.now.e) n ∧ (n % 64).testBit i = true) hA (fun i hi => ?_)]
        · exact q h7 ff.fx (ff.px p)
        · rw [a i hi]
          constructor
          · rintro ⟨k, hk, u⟩
            exact ⟨ord k, (b.rc (Nat.le_refl _) _).mpr ⟨k, by omega, rfl⟩, u⟩
          · rintro ⟨n, hn, u⟩
            obtain ⟨k, hk, rfl⟩ := (b.rc (Nat.le_refl _) _).mp hn
            exact ⟨k, by omega, u⟩
      | succ m ih =>
        intro j A hj hA a
        have on := b.2.1 j (by omega)
        have eo : eb_I h7 s_flights_order j = nI (16 * (ord j % 64) + ord j / 64) := so.2.1 j (by omega)
        obtain ⟨q1, q2⟩ := ec_c4 (c := ord j / 64) (e := ord j % 64) (by omega) (by omega)
        refine b_X1_echoesAnywhere_4 (d := 1297) _ _ ff.1 ?_
        rw [so.1, eb_cln (n := j) (by omega), eo, q2, nI_1, ec_or (by omega) (by omega)]
        refine ⟨fun z => absurd z (nI_ge (by omega) (by omega)), fun _ => ⟨fun z => absurd z (nI_ge (a := j) (b := 1024) (by omega) (by omega)), fun _ => ⟨vp_in_nI (by omega) (by omega), ?_⟩⟩⟩
        refine ih (j + 1) _ (by omega) (Nat.or_lt_two_pow hA (by omega)) (fun i hi => ?_)
        rw [Nat.testBit_or, Bool.or_eq_true, a i hi]
        constructor
        · rintro (⟨k, hk, u⟩ | u)
          · exact ⟨k, by omega, u⟩
          · exact ⟨j, by omega, u⟩
        · rintro ⟨k, hk, u⟩
          by_cases e : k = j
          · rw [e] at u; exact Or.inr u
          · exact Or.inl ⟨k, by omega, u⟩
    refine T_X1_echoesAnywhere (d := 1297) ff.1 (key found 0 0 (by omega) (by omega) (fun i hi => ?_))
    rw [Nat.zero_testBit]
    constructor
    · intro z; cases z
    · rintro ⟨x, y, _⟩; omega
  · refine T_X11_heard (d := 1297) ko ?_
    rw [← eg]
    have e50 : eb_I g s_m_all (50 : Int32).toNatClampNeg = nI w.now.D := p.now.2.2.2.2.1.trans n3
    rw [e50]
    refine M_lr (d := 1294) p ok kog w.now.D n6 (fun g' F rc => ⟨rfl, F.ko kog, ?_⟩)
    have pg := p.mr F
    have eR : eb_I g' s_m_all (1 : Int32).toNatClampNeg = nI w.va.R := pg.va.2.1.trans r1
    have eW : eb_I g' s_m_all (2 : Int32).toNatClampNeg = nI w.va.W := pg.va.2.2.1.trans r2
    have cells : (64 : Int32) * ((eb_I g' s_m_all (1 : Int32).toNatClampNeg) * (eb_I g' s_m_all (2 : Int32).toNatClampNeg)) = nI (64 * (w.va.R * w.va.W)) := by
      rw [eR, eW, pk_mul, show (64 : Int32) * nI (w.va.R * w.va.W) = nI (64 * (w.va.R * w.va.W)) from pk_mul 64 _]
    have key : ∀ (m n A : Nat), n + m = 64 * (w.va.R * w.va.W) → A < 2 ^ 6 → (∀ i, i < 6 → (A.testBit i = true ↔ ∃ k, k < n ∧ ec_rc (ec_g w.va w.now w.now.D) (64 * w.now.b + w.now.e) k ∧ (k % 64).testBit i = true)) → eb_Sn 1299 m_X11_heard h 20 [(0, .ref s_MO), (1, .int (nI A)), (2, .int (nI n))] [] g' Q := by
      intro m
      induction m with
      | zero =>
        intro n A hn hA a
        refine b_X11_heard_20 (d := 1297) _ _ (F.ko kog) ?_
        rw [cells]
        refine ⟨fun _ => ?_, fun z => absurd (nI_le (by omega) (by omega)) z⟩
        rw [ec_bsn_u (P := fun i => ∃ n, ec_rc (ec_g w.va w.now w.now.D) (64 * w.now.b + w.now.e) n ∧ (n % 64).testBit i = true) hA (fun i hi => ?_)]
        · exact q g' (F.fm kog ec_mr_M) pg
        · rw [a i hi]
          constructor
          · rintro ⟨k, _, u, v⟩; exact ⟨k, u, v⟩
          · rintro ⟨k, u, v⟩
            exact ⟨k, by have := ec_rc_lt ok.va ok.now u; omega, u, v⟩
      | succ m ih =>
        intro n A hn hA a
        refine b_X11_heard_20 (d := 1297) _ _ (F.ko kog) ?_
        rw [cells, eb_cln (n := n) (by omega), show nI n - nI n / 64 * 64 = nI (n % 64) from pk_rem (d := 64) (by omega) (by omega) (by omega), nI_1]
        refine ⟨fun z => absurd z (nI_ge (by omega) (by omega)), fun _ => ⟨vp_in_nI (by omega) (by omega), ?_⟩⟩
        by_cases z : eb_I g' s_m_reached n = 0
        · rw [if_pos z, Int32.or_zero]
          refine ih (n + 1) A (by omega) hA (fun i hi => ?_)
          rw [a i hi]
          constructor
          · rintro ⟨k, x1, x2, x3⟩; exact ⟨k, by omega, x2, x3⟩
          · rintro ⟨k, x1, x2, x3⟩
            refine ⟨k, ?_, x2, x3⟩
            have : k ≠ n := fun y => (rc n (by omega)).mp z (by rw [← y]; exact x2)
            omega
        · rw [if_neg z, ec_or (by omega) (by omega)]
          have zr : ec_rc (ec_g w.va w.now w.now.D) (64 * w.now.b + w.now.e) n := Classical.byContradiction fun u => z ((rc n (by omega)).mpr u)
          refine ih (n + 1) _ (by omega) (Nat.or_lt_two_pow hA (by omega)) (fun i hi => ?_)
          rw [Nat.testBit_or, Bool.or_eq_true, a i hi]
          constructor
          · rintro (⟨k, x1, x2, x3⟩ | x)
            · exact ⟨k, by omega, x2, x3⟩
            · exact ⟨n, by omega, zr, x⟩
          · rintro ⟨k, x1, x2, x3⟩
            by_cases y : k = n
            · rw [y] at x3; exact Or.inr x3
            · exact Or.inl ⟨k, by omega, x2, x3⟩
    exact key _ 0 0 (Nat.zero_add _) (by omega) (fun i hi => by
      rw [Nat.zero_testBit]
      constructor
      · intro z; cases z
      · rintro ⟨e, x1, _⟩; omega)
/-! the sets of a cell, asked one by one -/
theorem C_si {d : Nat} {h : eb_H} {Q : Option Value → eb_H → Prop} {w : eb_Wo} (p : PX w h) (ko : eb_KO h) (ok : eb_okW w) (c : Nat) (hc : c < 16) (q : ∀ h' found ord pp pw, ec_ff h h' → ec_BI (ec_g w.va w.now w.now.D) (64 * w.now.b + w.now.e) (64 * (w.va.R * w.va.W)) found ord pp pw (4 * found) → ec_SO h' found ord pp pw → Q (some (.long (lN (ec_st w c)))) h') : eb_Ct (d + 7) 148 [.ref s_EB, .int (nI c)] h Q := by
  have r10 := ok.va.RW.2.2.2.2.2.2.2.2.2.1
  refine T_X10_setsIn (d := d + 6) _ ko ?_
  refine C_sp (d := d) p ko ok (fun h7 found ord pp pw ff fl b so => ⟨rfl, ff.1, ?_⟩)
  refine C_sets (d := d + 5) b (by omega) so c hc ff.1 ⟨_, rfl, ff.1, ?_⟩
  rw [ec_st_eq b c]
  exact q h7 found ord pp pw ff b so
theorem M_rd {d : Nat} {g g' : eb_H} {w : eb_Wo} (rc : ∀ n, n < 1024 → (eb_I g' s_m_reached n = 0 ↔ ¬ ec_rc (ec_g w.va w.now w.now.D) (64 * w.now.b + w.now.e) n)) {c e : Nat} (hc : c < 16) (he : e < 64) : eb_I g' s_m_reached (64 * c + e) = 0 ↔ ¬ (ec_st w c).testBit e = true := by
  rw [rc _ (by omega), ec_st_bit w he]
theorem ec_ub {S j : Nat} (hS : S < 2 ^ 64) (hj : j < 64) : (((lN S).toUInt64 >>> ((nI j).toInt64.toUInt64 &&& Int64.toUInt64 63)).toInt64 &&& 1 = 1 ↔ S.testBit j = true) ∧ (((lN S).toUInt64 >>> ((nI j).toInt64.toUInt64 &&& Int64.toUInt64 63)).toInt64 &&& 1 = 0 ↔ ¬ S.testBit j = true) := by
  rw [wb_bit hS hj, ec_lN1, ec_tbd]
  refine ⟨Iff.rfl, ?_⟩
  rw [← ec_tbd]
  have : lN (S / 2 ^ j % 2) = lN 0 ↔ S / 2 ^ j % 2 = 0 := lN_eq (by omega) (by omega)
  have t : lN (S / 2 ^ j % 2) = 0 ↔ S / 2 ^ j % 2 = 0 := this
  rw [t]
  omega
def ec_mst (S : Nat) : Nat → Nat → Int32 → Int32
  | 0, _, a => a
  | m + 1, j, a => ec_mst S m (j + 1) (if S.testBit j = true then (if a < nI (ec_bc j) then nI (ec_bc j) else a) else a)
theorem ec_mst_s {S m j : Nat} {a : Int32} : ec_mst S (m + 1) j a = ec_mst S m (j + 1) (if S.testBit j = true then (if a < nI (ec_bc j) then nI (ec_bc j) else a) else a) := rfl
/-- 24: most -/
theorem c_most (k : Nat) (h : eb_H) (v1 : Int32) (inv : eb_Inv L xs k h) : eb_Pr 118 244 [.int v1] (eb_Inv L xs (k + 1)) h := by
  refine eb_pr inv (fun w ok => ?_)
  obtain ⟨r1, r2, r3, r4, r5, r6, r7, r8, r9, r10, _⟩ := ok.va.RW
  obtain ⟨n1, n2, n3, n4, n5, n6, n7⟩ := ok.now.N ok.va
  by_cases hx : 0 ≤ v1.toInt ∧ v1.toInt < (w.va.R * w.va.W : Nat)
  · obtain ⟨c, hc, rfl⟩ := ec_in hx
    have sl := ec_st_lt w c
    refine ⟨ec_mst (ec_st w c) 64 0 (-1), w, ok, by omega, eb_XS.of (fun h ko p Q q => ?_), eb_MS.of (fun h g ko eg kog p Q q => ?_)⟩
    · obtain ⟨v, ev, pv⟩ := p.va
      refine T_X10_most (d := 1298) _ ko ⟨v, ev, pv.1.1, fun _ => ?_, fun z => absurd ((X_has pv ok.va _).mpr hx) z⟩
      refine C_si (d := 1291) p ko ok c (by omega) (fun h7 found ord pp pw ff b so => ⟨_, rfl, ff.1, ?_⟩)
      have key : ∀ (m j : Nat) (a : Int32), j + m = 64 → Q (some (.int (ec_mst (ec_st w c) m j a))) h7 → eb_Sn 1299 m_X10_most h 26 [(2, .long (lN (ec_st w c))), (4, .int a), (5, .int (nI j))] [] h7 Q := by
        intro m
        induction m with
        | zero =>
          intro j a hj u
          exact b_X10_most_26 (d := 1298) _ _ _ ff.1 ⟨fun _ => u, fun z => absurd (nI_le (a := 64) (by omega) (by omega)) z⟩
        | succ m ih =>
          intro j a hj u
          rw [ec_mst_s] at u
          refine b_X10_most_26 (d := 1298) _ _ _ ff.1 ⟨fun z => absurd z (nI_ge (a := j) (b := 64) (by omega) (by omega)), fun _ => ?_⟩
          rw [(ec_ub sl (by omega)).1, nI_1]
          refine ⟨fun z => ?_, fun z => ?_⟩
          · rw [if_neg z] at u
            exact ih (j + 1) a (by omega) u
          · rw [if_pos z] at u
            refine ec_b2 j (by omega) ff.1 ⟨_, rfl, ff.1, ?_⟩
            exact ih (j + 1) _ (by omega) u
      exact key 64 0 (-1) (by omega) (q h7 ff.fx (ff.px p))
    · refine T_X11_most (d := 1297) _ ko ?_
      rw [← eg]
      have e50 : eb_I g s_m_all (50 : Int32).toNatClampNeg = nI w.now.D := p.now.2.2.2.2.1.trans n3
      rw [e50]
      refine ⟨fun _ => ?_, fun z => absurd ((M_has p.va ok.va _).mpr hx) z⟩
      refine M_lr (d := 1294) p ok kog w.now.D n6 (fun g' F rc => ⟨rfl, F.ko kog, ?_⟩)
      have key : ∀ (m j : Nat) (a : Int32), j + m = 64 → Q (some (.int (ec_mst (ec_st w c) m j a))) g' → eb_Sn 1299 m_X11_most h 32 [(0, .ref s_MO), (1, .int (nI c)), (2, .int a), (3, .int (nI j))] [] g' Q := by
        intro m
        induction m with
        | zero =>
          intro j a hj u
          exact b_X11_most_32 (d := 1297) _ _ _ (F.ko kog) ⟨fun _ => u, fun z => absurd (nI_le (a := 64) (by omega) (by omega)) z⟩
        | succ m ih =>
          intro j a hj u
          rw [ec_mst_s] at u
          have e64 : (64 : Int32) * nI c + nI j = nI (64 * c + j) := by
            rw [show (64 : Int32) * nI c = nI (64 * c) from pk_mul 64 c, nI_add]
          refine b_X11_most_32 (d := 1297) _ _ _ (F.ko kog) ⟨fun z => absurd z (nI_ge (a := j) (b := 64) (by omega) (by omega)), fun _ => ?_⟩
          rw [e64, eb_cln (n := 64 * c + j) (by omega), M_rd (d := 0) (g := g) rc (by omega) (by omega), nI_1]
          refine ⟨vp_in_nI (by omega) (by omega), fun z => ?_, fun z => ?_⟩
          · rw [if_neg z] at u
            exact ih (j + 1) a (by omega) u
          · have z : (ec_st w c).testBit j = true := Decidable.not_not.mp z
            rw [if_pos z] at u
            refine M_bits j (by omega) (F.ko kog) ⟨_, rfl, F.ko kog, fun y => ?_, fun y => ?_⟩
            · rw [if_neg (by rw [eb_i32]; rw [eb_i32e] at y; omega)] at u
              exact ih (j + 1) a (by omega) u
            · rw [if_pos (by rw [eb_i32]; rw [eb_i32e] at y; omega)] at u
              exact M_bits j (by omega) (F.ko kog) ⟨_, rfl, F.ko kog, ih (j + 1) _ (by omega) u⟩
      exact key 64 0 (-1) (by omega) (q g' (F.fm kog ec_mr_M) (p.mr F))
  · refine ⟨-2, w, ok, by omega, eb_XS.of (fun h ko p Q q => ?_), eb_MS.of (fun h g ko eg kog p Q q => ?_)⟩
    · obtain ⟨v, ev, pv⟩ := p.va
      exact T_X10_most (d := 1298) _ ko ⟨v, ev, pv.1.1, fun z => absurd ((X_has pv ok.va _).mp z) hx, fun _ => q h (eb_fx.rfl ko) p⟩
    · refine T_X11_most (d := 1297) _ ko ?_
      rw [← eg]
      exact ⟨fun z => absurd ((M_has p.va ok.va _).mp z) hx, fun _ => q g (eb_fm.rfl kog) p⟩
end EBSETS2
