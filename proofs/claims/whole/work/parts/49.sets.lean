section EBSETS
variable {L : Nat} {xs : Nat → Int32}
/-! a set of numbers as bits -/
noncomputable def ec_bsn (P : Nat → Prop) : Nat → Nat
  | 0 => 0
  | n + 1 => ec_bsn P n ||| (match Classical.propDecidable (P n) with
    | .isTrue _ => 2 ^ n
    | .isFalse _ => 0)
theorem ec_bsn_s (P : Nat → Prop) (n : Nat) : (P n → ec_bsn P (n + 1) = ec_bsn P n ||| 2 ^ n) ∧ (¬ P n → ec_bsn P (n + 1) = ec_bsn P n) := by
  constructor
  · intro h
    show ec_bsn P n ||| (match Classical.propDecidable (P n) with
      | .isTrue _ => 2 ^ n
      | .isFalse _ => 0) = _
    cases hd : Classical.propDecidable (P n) with
    | isTrue _ => rfl
    | isFalse z => exact absurd h z
  · intro h
    show ec_bsn P n ||| (match Classical.propDecidable (P n) with
      | .isTrue _ => 2 ^ n
      | .isFalse _ => 0) = _
    cases hd : Classical.propDecidable (P n) with
    | isTrue z => exact absurd z h
    | isFalse _ => exact Nat.or_zero _
theorem ec_bsn_lt (P : Nat → Prop) : ∀ n, ec_bsn P n < 2 ^ n
  | 0 => by show 0 < 1; omega
  | n + 1 => by
    have ih := ec_bsn_lt P n
    have p1 : (2 : Nat) ^ n < 2 ^ (n + 1) := wb_lt2 (by omega)
    by_cases h : P n
    · rw [(ec_bsn_s P n).1 h]
      exact Nat.or_lt_two_pow (by omega) p1
    · rw [(ec_bsn_s P n).2 h]
      omega
theorem ec_bsn_bit (P : Nat → Prop) : ∀ n i, (ec_bsn P n).testBit i = true ↔ i < n ∧ P i
  | 0, i => by
    show (0 : Nat).testBit i = true ↔ _
    rw [Nat.zero_testBit]
    constructor
    · intro h; cases h
    · rintro ⟨h, _⟩; omega
  | n + 1, i => by
    have ih := ec_bsn_bit P n i
    by_cases h : P n
    · rw [(ec_bsn_s P n).1 h, Nat.testBit_or, Nat.testBit_two_pow, Bool.or_eq_true, ih, decide_eq_true_iff]
      constructor
      · rintro (⟨a, b⟩ | a)
        · exact ⟨by omega, b⟩
        · rw [← a]; exact ⟨by omega, h⟩
      · rintro ⟨a, b⟩
        by_cases e : n = i
        · exact Or.inr e
        · exact Or.inl ⟨by omega, b⟩
    · rw [(ec_bsn_s P n).2 h, ih]
      constructor
      · rintro ⟨a, b⟩; exact ⟨by omega, b⟩
      · rintro ⟨a, b⟩
        refine ⟨?_, b⟩
        have : i ≠ n := fun e => h (by rw [← e]; exact b)
        omega
theorem ec_bsn_u {P : Nat → Prop} {n R : Nat} (hR : R < 2 ^ n) (h : ∀ i, i < n → (R.testBit i = true ↔ P i)) : R = ec_bsn P n := by
  apply Nat.eq_of_testBit_eq
  intro i
  have b := ec_bsn_bit P n i
  by_cases hi : i < n
  · have a := h i hi
    cases x : R.testBit i with
    | true => rw [b.mpr ⟨hi, a.mp x⟩]
    | false =>
      cases y : (ec_bsn P n).testBit i with
      | true => rw [a.mpr (b.mp y).2] at x; cases x
      | false => rfl
  · have p1 : (2 : Nat) ^ n ≤ 2 ^ i := Nat.pow_le_pow_right (by decide) (by omega)
    rw [Nat.testBit_lt_two_pow (by omega)]
    cases y : (ec_bsn P n).testBit i with
    | true => exact absurd (b.mp y).1 hi
    | false => rfl
theorem ec_tbd {S k : Nat} : (S / 2 ^ k % 2 = 1) ↔ S.testBit k = true := by
  rw [Nat.testBit_eq_decide_div_mod_eq, decide_eq_true_iff]
/-! the class: begun and spread -/
theorem C_sp {d : Nat} {h : eb_H} {Q : Option Value → eb_H → Prop} {w : eb_Wo} (p : PX w h) (ko : eb_KO h) (ok : eb_okW w) (q : ∀ h' found ord pp pw, ec_ff h h' → ec_FL w.va w.now w.now.D h' → ec_BI (ec_g w.va w.now w.now.D) (64 * w.now.b + w.now.e) (64 * (w.va.R * w.va.W)) found ord pp pw (4 * found) → ec_SO h' found ord pp pw → Q none h') : ∃ v, eb_R h s_EB 2 = some v ∧ eb_kd v = 9 ∧ eb_Ct (d + 6) 8 [.ref s_flights, .ref v, .ref s_now] h (fun r h4 => r = none ∧ eb_KO h4 ∧ eb_Ct (d + 6) 11 [.ref s_flights] h4 Q) := by
  obtain ⟨n1, n2, n3, n4, n5, n6, n7⟩ := ok.now.N ok.va
  refine C_start (d := d + 4) p ko ok (fun v h' _ ff fl => ⟨rfl, ff.1, ?_⟩)
  exact C_spread (d := d) ok.va ok.now w.now.D n6 fl ff.1 (fun h2 found ord pp pw F f b so => q h2 found ord pp pw (ff.gf F.gr ec_f5_s) f b so)
theorem C_sets {d : Nat} {h : eb_H} {Q : Option Value → eb_H → Prop} {N found : Nat} {ord pp pw : Nat → Nat} {g : Nat → Nat → Option Nat} {s0 t : Nat} (b : ec_BI g s0 N found ord pp pw t) (hN : N ≤ 1024) (so : ec_SO h found ord pp pw) (c : Nat) (hc : c < 16) (ko : eb_KO h) (q : Q (some (.long (lN (ec_bsn (fun e => ∃ k, k < found ∧ ord k = 64 * c + e) 64)))) h) : eb_Ct (d + 1) 16 [.ref s_flights, .int (nI c)] h Q := by
  have fle := b.le
  have key : ∀ (m k S : Nat), k + m = found → S < 2 ^ 64 → (∀ e, e < 64 → (S.testBit e = true ↔ ∃ j, j < k ∧ ord j = 64 * c + e)) → eb_Sn (d + 1) m_X1_setsAt h 5 [(0, .ref s_flights), (1, .int (nI c)), (2, .long (lN S)), (4, .int (nI k))] [] h Q := by
    intro m
    induction m with
    | zero =>
      intro k S hk hS a
      refine b_X1_setsAt_5 (d := d) _ _ _ ko ?_
      rw [so.1]
      refine ⟨fun _ => ?_, fun z => absurd (nI_le (by omega) (by omega)) z⟩
      rw [ec_bsn_u (P := fun e => ∃ k, k < found ∧ ord k = 64 * c + e) hS (fun e he => by rw [a e he, show k = found by omega])]
      exact q
    | succ m ih =>
      intro k S hk hS a
      have on := b.2.1 k (by omega)
      have eo : eb_I h s_flights_order k = nI (16 * (ord k % 64) + ord k / 64) := so.2.1 k (by omega)
      obtain ⟨q1, q2⟩ := ec_c4 (c := ord k / 64) (e := ord k % 64) (by omega) (by omega)
      refine b_X1_setsAt_5 (d := d) _ _ _ ko ?_
      rw [so.1, eb_cln (n := k) (by omega), eo, q1, q2, nI_1, nI_eq (by omega) (by omega)]
      refine ⟨fun z => absurd z (nI_ge (by omega) (by omega)), fun _ => ⟨fun z => absurd z (nI_ge (a := k) (b := 1024) (by omega) (by omega)), fun _ => ⟨vp_in_nI (by omega) (by omega), fun z => ?_, fun z => ⟨vp_in_nI (by omega) (by omega), ?_⟩⟩⟩⟩
      · refine ih (k + 1) S (by omega) hS (fun e he => ?_)
        rw [a e he]
        constructor
        · rintro ⟨j, hj, ej⟩
          exact ⟨j, by omega, ej⟩
        · rintro ⟨j, hj, ej⟩
          refine ⟨j, ?_, ej⟩
          have : j ≠ k := fun x => z (by rw [← x, ej]; omega)
          omega
      · have p64 : (2 : Nat) ^ (ord k % 64) < 2 ^ 64 := wb_lt2 (by omega)
        have sh : (1 : Int64) <<< ((nI (ord k % 64)).toInt64 &&& 63) = lN (2 ^ (ord k % 64)) := by
          have := wb_shl 1 (k := ord k % 64) (by omega)
          rw [Nat.one_mul] at this
          exact this
        rw [sh, wb_or hS p64]
        refine ih (k + 1) _ (by omega) (Nat.or_lt_two_pow hS p64) (fun e he => ?_)
        rw [Nat.testBit_or, Nat.testBit_two_pow, Bool.or_eq_true, a e he, decide_eq_true_iff]
        constructor
        · rintro (⟨j, hj, ej⟩ | x)
          · exact ⟨j, by omega, ej⟩
          · exact ⟨k, by omega, by omega⟩
        · rintro ⟨j, hj, ej⟩
          by_cases x : j = k
          · refine Or.inr ?_
            rw [x] at ej
            omega
          · exact Or.inl ⟨j, by omega, ej⟩
  refine T_X1_setsAt (d := d) _ ko (key found 0 0 (by omega) (by omega) (fun e he => ?_))
  rw [Nat.zero_testBit]
  constructor
  · intro z; cases z
  · rintro ⟨j, hj, _⟩; omega
/-- the sets with which a cell can be come to -/
noncomputable def ec_st (w : eb_Wo) (c : Nat) : Nat := ec_bsn (fun e => ec_rc (ec_g w.va w.now w.now.D) (64 * w.now.b + w.now.e) (64 * c + e)) 64
theorem ec_bsn_cg {P P' : Nat → Prop} (n : Nat) (h : ∀ i, i < n → (P i ↔ P' i)) : ec_bsn P n = ec_bsn P' n := ec_bsn_u (ec_bsn_lt P n) (fun i hi => by
  rw [ec_bsn_bit]
  exact ⟨fun z => (h i hi).mp z.2, fun z => ⟨hi, (h i hi).mpr z⟩⟩)
theorem ec_st_eq {w : eb_Wo} {N found : Nat} {ord pp pw : Nat → Nat} (b : ec_BI (ec_g w.va w.now w.now.D) (64 * w.now.b + w.now.e) N found ord pp pw (4 * found)) (c : Nat) : ec_bsn (fun e => ∃ k, k < found ∧ ord k = 64 * c + e) 64 = ec_st w c := ec_bsn_cg 64 (fun e _ => (b.rc (Nat.le_refl _) (64 * c + e)).symm)
theorem ec_st_lt (w : eb_Wo) (c : Nat) : ec_st w c < 2 ^ 64 := ec_bsn_lt _ 64
theorem ec_st_bit (w : eb_Wo) {c e : Nat} (he : e < 64) : (ec_st w c).testBit e = true ↔ ec_rc (ec_g w.va w.now w.now.D) (64 * w.now.b + w.now.e) (64 * c + e) := by
  unfold ec_st
  rw [ec_bsn_bit]
  exact ⟨fun z => z.2, fun z => ⟨he, z⟩⟩
noncomputable def ec_rch (w : eb_Wo) : Nat := ec_bsn (fun c => ¬ ec_st w c = 0) 16
theorem ec_st_0 (w : eb_Wo) (c : Nat) : ec_st w c = 0 ↔ ∀ e, e < 64 → ¬ ec_rc (ec_g w.va w.now w.now.D) (64 * w.now.b + w.now.e) (64 * c + e) := by
  constructor
  · intro z e he u
    have := (ec_st_bit w he).mpr u
    rw [z, Nat.zero_testBit] at this
    cases this
  · intro z
    apply Nat.eq_of_testBit_eq
    intro i
    rw [Nat.zero_testBit]
    cases x : (ec_st w c).testBit i with
    | false => rfl
    | true =>
      have hi : i < 64 := (ec_bsn_bit _ 64 i).mp x |>.1
      exact absurd ((ec_st_bit w hi).mp x) (z i hi)
/-- 22: reach -/
theorem c_reach (k : Nat) (h : eb_H) (inv : eb_Inv L xs k h) : eb_Pr 116 242 [] (eb_Inv L xs (k + 1)) h := by
  refine eb_pr inv (fun w ok => ?_)
  obtain ⟨r1, r2, r3, r4, r5, r6, r7, r8, r9, r10, _⟩ := ok.va.RW
  obtain ⟨n1, n2, n3, n4, n5, n6, n7⟩ := ok.now.N ok.va
  refine ⟨nI (ec_rch w), w, ok, by omega, eb_XS.of (fun h ko p Q q => ?_), eb_MS.of (fun h g ko eg kog p Q q => ?_)⟩
  · refine T_X10_reach (d := 1298) ko ?_
    refine C_sp (d := 1292) p ko ok (fun h7 found ord pp pw ff fl b so => ⟨rfl, ff.1, ?_⟩)
    have key : ∀ (m c R : Nat), c + m = 16 → R < 2 ^ 16 → (∀ i, i < 16 → (R.testBit i = true ↔ i < c ∧ ¬ ec_st w i = 0)) → eb_Sn 1299 m_X10_reach h 26 [(0, .ref s_EB), (1, .int (nI R)), (2, .int (nI c))] [] h7 Q := by
      intro m
      induction m with
      | zero =>
        intro c R hc hR a
        refine b_X10_reach_26 (d := 1298) _ _ ff.1 ⟨fun _ => ?_, fun z => absurd (nI_le (a := 16) (by omega) (by omega)) z⟩
        rw [ec_bsn_u (P := fun c => ¬ ec_st w c = 0) hR (fun i hi => by rw [a i hi]; exact ⟨fun z => z.2, fun z => ⟨by omega, z⟩⟩)]
        exact q h7 ff.fx (ff.px p)
      | succ m ih =>
        intro c R hc hR a
        refine b_X10_reach_26 (d := 1298) _ _ ff.1 ⟨fun z => absurd z (nI_ge (a := c) (b := 16) (by omega) (by omega)), fun _ => ?_⟩
        refine C_sets (d := 1297) b (by omega) so c (by omega) ff.1 ⟨_, rfl, ff.1, ?_⟩
        have sl := ec_st_lt w c
        have p16 : (2 : Nat) ^ c < 2 ^ 16 := wb_lt2 (by omega)
        rw [ec_st_eq b c, nI_1, ec_shl1 (by omega), ec_or (by omega) (by omega)]
        have ez : lN (ec_st w c) = 0 ↔ ec_st w c = 0 := by
          constructor
          · intro z
            have := wb_tn sl
            rw [z] at this
            exact this.symm
          · intro z; rw [z]; rfl
        rw [ez]
        refine ⟨fun z => ih (c + 1) R (by omega) hR (fun i hi => ?_), fun z => ih (c + 1) _ (by omega) (Nat.or_lt_two_pow hR p16) (fun i hi => ?_)⟩
        · rw [a i hi]
          constructor
          · rintro ⟨x, y⟩; exact ⟨by omega, y⟩
          · rintro ⟨x, y⟩
            refine ⟨?_, y⟩
            have : i ≠ c := fun e => y (by rw [e]; exact z)
            omega
        · rw [Nat.testBit_or, Nat.testBit_two_pow, Bool.or_eq_true, a i hi, decide_eq_true_iff]
          constructor
          · rintro (⟨x, y⟩ | x)
            · exact ⟨by omega, y⟩
            · rw [← x]; exact ⟨by omega, z⟩
          · rintro ⟨x, y⟩
            by_cases e : c = i
            · exact Or.inr e
            · exact Or.inl ⟨by omega, y⟩
    exact key 16 0 0 (by omega) (by omega) (fun i hi => by
      rw [Nat.zero_testBit]
      constructor
      · intro z; cases z
      · rintro ⟨x, _⟩; omega)
  · refine T_X11_reach (d := 1297) ko ?_
    rw [← eg]
    have e50 : eb_I g s_m_all (50 : Int32).toNatClampNeg = nI w.now.D := p.now.2.2.2.2.1.trans n3
    rw [e50]
    refine M_lr (d := 1294) p ok kog w.now.D n6 (fun g' F rc => ⟨rfl, F.ko kog, ?_⟩)
    have pg := p.mr F
    have eR : eb_I g' s_m_all (1 : Int32).toNatClampNeg = nI w.va.R := pg.va.2.1.trans r1
    have eW : eb_I g' s_m_all (2 : Int32).toNatClampNeg = nI w.va.W := pg.va.2.2.1.trans r2
    have cells : (64 : Int32) * ((eb_I g' s_m_all (1 : Int32).toNatClampNeg) * (eb_I g' s_m_all (2 : Int32).toNatClampNeg)) = nI (64 * (w.va.R * w.va.W)) := by
      rw [eR, eW, pk_mul, show (64 : Int32) * nI (w.va.R * w.va.W) = nI (64 * (w.va.R * w.va.W)) from pk_mul 64 _]
    have key : ∀ (m n R : Nat), n + m = 64 * (w.va.R * w.va.W) → R < 2 ^ 16 → (∀ i, i < 16 → (R.testBit i = true ↔ ∃ e, e < 64 ∧ 64 * i + e < n ∧ ec_rc (ec_g w.va w.now w.now.D) (64 * w.now.b + w.now.e) (64 * i + e))) → eb_Sn 1299 m_X11_reach h 20 [(0, .ref s_MO), (1, .int (nI R)), (2, .int (nI n))] [] g' Q := by
      intro m
      induction m with
      | zero =>
        intro n R hn hR a
        refine b_X11_reach_20 (d := 1297) _ _ (F.ko kog) ?_
        rw [cells]
        refine ⟨fun _ => ?_, fun z => absurd (nI_le (by omega) (by omega)) z⟩
        rw [ec_bsn_u (P := fun c => ¬ ec_st w c = 0) hR (fun i hi => ?_)]
        · exact q g' (F.fm kog ec_mr_M) pg
        · rw [a i hi, ec_st_0]
          constructor
          · rintro ⟨e, he, _, u⟩ z
            exact z e he u
          · intro z
            refine Classical.byContradiction fun y => z fun e he u => y ⟨e, he, ?_, u⟩
            have := ec_rc_lt ok.va ok.now u
            omega
      | succ m ih =>
        intro n R hn hR a
        refine b_X11_reach_20 (d := 1297) _ _ (F.ko kog) ?_
        have p16 : (2 : Nat) ^ (n / 64) < 2 ^ 16 := wb_lt2 (by omega)
        rw [cells, eb_cln (n := n) (by omega), show nI n / 64 = nI (n / 64) from pk_div (d := 64) (by omega) (by omega) (by omega), ec_shl1 (by omega), nI_1]
        refine ⟨fun z => absurd z (nI_ge (by omega) (by omega)), fun _ => ⟨vp_in_nI (by omega) (by omega), ?_⟩⟩
        by_cases z : eb_I g' s_m_reached n = 0
        · rw [if_pos z, Int32.or_zero]
          refine ih (n + 1) R (by omega) hR (fun i hi => ?_)
          rw [a i hi]
          constructor
          · rintro ⟨e, x1, x2, x3⟩; exact ⟨e, x1, by omega, x3⟩
          · rintro ⟨e, x1, x2, x3⟩
            refine ⟨e, x1, ?_, x3⟩
            have : 64 * i + e ≠ n := fun y => (rc n (by omega)).mp z (by rw [← y]; exact x3)
            omega
        · rw [if_neg z, ec_or (by omega) (by omega)]
          have zr : ec_rc (ec_g w.va w.now w.now.D) (64 * w.now.b + w.now.e) n := Classical.byContradiction fun u => z ((rc n (by omega)).mpr u)
          refine ih (n + 1) _ (by omega) (Nat.or_lt_two_pow hR p16) (fun i hi => ?_)
          rw [Nat.testBit_or, Nat.testBit_two_pow, Bool.or_eq_true, a i hi, decide_eq_true_iff]
          constructor
          · rintro (⟨e, x1, x2, x3⟩ | x)
            · exact ⟨e, x1, by omega, x3⟩
            · refine ⟨n % 64, by omega, by omega, ?_⟩
              rw [← x, show 64 * (n / 64) + n % 64 = n by omega]
              exact zr
          · rintro ⟨e, x1, x2, x3⟩
            by_cases y : 64 * i + e = n
            · exact Or.inr (by omega)
            · exact Or.inl ⟨e, x1, by omega, x3⟩
    exact key _ 0 0 (Nat.zero_add _) (by omega) (fun i hi => by
      rw [Nat.zero_testBit]
      constructor
      · intro z; cases z
      · rintro ⟨e, x1, x2, _⟩; omega)
end EBSETS
