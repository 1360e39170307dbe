section EBWAYS
variable {L : Nat} {xs : Nat → Int32}
theorem ed_az (n : Nat) : lN n + 0 = lN n := by
  have := lN_add n 0
  rw [Nat.add_zero] at this
  exact this
/-- how many flights of n steps come there -/
def ed_wys (w : eb_Wo) (st : Bool) (c a b n : Nat) : Nat := ed_Mn (ed_nxs w.va w.now w.now.D st) (ed_gi c a b) n (64 * w.now.b + w.now.e)
/-- 20: ways -/
theorem c_ways (k : Nat) (h : eb_H) (v1 v2 v3 v4 : Int32) (inv : eb_Inv L xs k h) : eb_PrL 114 239 [.int v1, .int v2, .int v3, .int v4] (eb_Inv L xs (k + 1)) h := by
  refine eb_prL inv (fun w ok => ?_)
  have r10 := ok.va.RW.2.2.2.2.2.2.2.2.2.1
  have m2 : (-2 : Int32).toInt64 = -2 := by decide
  have m3 : (-3 : Int32).toInt64 = -3 := by decide
  have c12 : (12 : Int64).toInt = 12 := by decide
  have d12 : (12 : Int32).toInt = 12 := by decide
  by_cases hC : ec_okC w v1
  · by_cases hE : ec_okE v2 v3
    · by_cases hN : 0 ≤ v4.toInt ∧ v4.toInt < (13 : Nat)
      · obtain ⟨c, a, b, ⟨hc, rfl⟩, ⟨ha, rfl⟩, ⟨hb, rfl⟩⟩ := ec_nums hC hE
        obtain ⟨n, hn, rfl⟩ := ec_in hN
        refine ⟨lN (ed_wys w false c a b n), w, ok, by omega, eb_XS.of (fun h ko p Q q => ?_), eb_MS.of (fun h g ko eg kog p Q q => ?_)⟩
        · refine T_X10_ways (d := 1298) _ _ _ _ ko (C_cr (d := 1296) p ok _ _ _ ko (fun _ _ => ⟨_, rfl, ko, fun _ => ⟨fun z => absurd z (nI_pos (by omega)), fun _ => ⟨fun _ => ?_, fun z => absurd (nI_le (b := 12) (by omega) (by omega)) z⟩⟩, fun z => absurd rfl z⟩) (fun _ z => absurd hE z) (fun z => absurd hC z))
          obtain ⟨v, ev, pv⟩ := p.va
          obtain ⟨am, h1, h2⟩ := ed_fyc ok 0 (Or.inl rfl) false n (by omega)
          refine ⟨v, ev, pv.1.1, C_fa (d := 1292) p ko ok n (by omega) 0 false (by decide) v ev (fun h' r ff hr hJ => ⟨rfl, ff.1, ?_⟩)⟩
          refine C_ao (d := 1296) hr hJ h1 c a b (by omega) ha hb ff.1 ⟨_, rfl, ff.1, ?_⟩
          rw [h2]
          exact q h' ff.fx (ff.px p)
        · refine T_X11_ways (d := 1297) _ _ _ _ ko ?_
          rw [← eg]
          refine M_nc (d := 1296) p ok _ _ _ kog (fun _ _ => ⟨_, rfl, kog, fun _ => ⟨fun _ => ?_, fun z => absurd ?_ z⟩, fun z => absurd rfl z⟩) (fun _ z => absurd hE z) (fun z => absurd hC z)
          · refine M_bm (d := 1294) p ok kog false (fun g1 F1 my1 => ⟨rfl, F1.ko kog, ?_⟩)
            have fin : ∀ (g2 : eb_H), ed_fg g g2 → ed_MY w false n g2 → eb_Sn 1299 m_X11_ways h 71 [(0, .ref s_MO), (1, .int (nI c)), (2, .int (nI a)), (3, .int (nI b)), (6, .long 0), (8, .int 0)] [] g2 Q := by
              intro g2 F my
              obtain ⟨_, _, am, h1, _, h3⟩ := my
              have key : ∀ (m j : Nat), j + m = 64 * (w.va.R * w.va.W) → eb_Sn 1299 m_X11_ways h 71 [(0, .ref s_MO), (1, .int (nI c)), (2, .int (nI a)), (3, .int (nI b)), (6, .long (lN (ec_sum (fun q => am q * ed_gi c a b q) j))), (8, .int (nI j))] [] g2 Q := by
                intro m
                induction m with
                | zero =>
                  intro j hj
                  have hj : j = 64 * (w.va.R * w.va.W) := by omega
                  subst hj
                  refine b_X11_ways_71 (d := 1297) _ _ _ _ _ (F.ko kog) ?_
                  rw [ed_cells (F.pm p) ok]
                  refine ⟨fun _ => ?_, fun z => absurd (nI_le (Nat.le_refl _) (by omega)) z⟩
                  rw [h3]
                  exact q g2 (F.fm kog) (F.pm p)
                | succ m ih =>
                  intro j hj
                  have nx := ih (j + 1) (by omega)
                  rw [ed_ss] at nx
                  refine b_X11_ways_71 (d := 1297) _ _ _ _ _ (F.ko kog) ?_
                  rw [ed_cells (F.pm p) ok, ec_glM (by omega) (by omega) ha hb, eb_cln (n := j) (by omega), nI_1]
                  refine ⟨fun z => absurd z (nI_ge (by omega) (by omega)), fun _ => ⟨fun z => ?_, fun z => ⟨vp_in_nI (by omega) (by omega), ?_⟩⟩⟩
                  · rw [ed_gi_0 z, Nat.mul_zero, Nat.add_zero] at nx
                    rw [ed_az]
                    exact nx
                  · rw [ed_gi_1 z, Nat.mul_one] at nx
                    rw [h1 j (by omega), lN_add]
                    exact nx
              exact key _ 0 (Nat.zero_add _)
            have lp : ∀ (m j : Nat) (g2 : eb_H), j + m = n → ed_fg g g2 → ed_MY w false j g2 → eb_Sn 1299 m_X11_ways h 47 [(0, .ref s_MO), (1, .int (nI c)), (2, .int (nI a)), (3, .int (nI b)), (4, .int (nI n)), (6, .int (nI j))] [] g2 Q := by
              intro m
              induction m with
              | zero =>
                intro j g2 hj F my
                have hj : j = n := by omega
                subst hj
                exact b_X11_ways_47 (d := 1297) _ _ _ _ _ (F.ko kog) ⟨fun _ => fin g2 F my, fun z => absurd (nI_le (Nat.le_refl _) (by omega)) z⟩
              | succ m ih =>
                intro j g2 hj F my
                refine b_X11_ways_47 (d := 1297) _ _ _ _ _ (F.ko kog) ⟨fun z => absurd z (nI_ge (by omega) (by omega)), fun _ => ?_⟩
                rw [nI_1]
                exact M_gm (d := 1296) (F.pm p) ok (F.ko kog) false 0 (by decide) j (by omega) my (fun g3 F3 my3 => ⟨rfl, F3.ko (F.ko kog), ih (j + 1) g3 (by omega) (F.trans F3) my3⟩)
            exact lp n 0 g1 (by omega) F1 my1
          · rw [eb_l64a, eb_l64b, eb_z64, c12, nI_toInt (by omega)]
            omega
      · refine ⟨-3, w, ok, by omega, eb_XS.of (fun h ko p Q q => ?_), eb_MS.of (fun h g ko eg kog p Q q => ?_)⟩
        · refine T_X10_ways (d := 1298) _ _ _ _ ko (C_cr (d := 1296) p ok _ _ _ ko (fun _ _ => ⟨_, rfl, ko, fun _ => ⟨fun _ => q h (eb_fx.rfl ko) p, fun z => ⟨fun z2 => ?_, fun _ => q h (eb_fx.rfl ko) p⟩⟩, fun z => absurd rfl z⟩) (fun _ z => absurd hE z) (fun z => absurd hC z))
          exfalso
          rw [eb_i32, eb_z32] at z
          rw [eb_i32e, d12] at z2
          omega
        · refine T_X11_ways (d := 1297) _ _ _ _ ko ?_
          rw [← eg]
          refine M_nc (d := 1296) p ok _ _ _ kog (fun _ _ => ⟨_, rfl, kog, fun _ => ⟨fun z => ?_, fun _ => q g (eb_fm.rfl kog) p⟩, fun z => absurd rfl z⟩) (fun _ z => absurd hE z) (fun z => absurd hC z)
          exfalso
          rw [eb_l64a, eb_l64b, eb_z64, c12] at z
          omega
    · refine ⟨-3, w, ok, by omega, eb_XS.of (fun h ko p Q q => ?_), eb_MS.of (fun h g ko eg kog p Q q => ?_)⟩
      · refine T_X10_ways (d := 1298) _ _ _ _ ko (C_cr (d := 1296) p ok _ _ _ ko (fun _ z => absurd z hE) (fun _ _ => ⟨_, rfl, ko, fun z => absurd z (by decide), fun _ => ?_⟩) (fun z => absurd hC z))
        rw [m3]
        exact q h (eb_fx.rfl ko) p
      · refine T_X11_ways (d := 1297) _ _ _ _ ko ?_
        rw [← eg]
        refine M_nc (d := 1296) p ok _ _ _ kog (fun _ z => absurd z hE) (fun _ _ => ⟨_, rfl, kog, fun z => absurd z (by decide), fun _ => ?_⟩) (fun z => absurd hC z)
        rw [m3]
        exact q g (eb_fm.rfl kog) p
  · refine ⟨-2, w, ok, by omega, eb_XS.of (fun h ko p Q q => ?_), eb_MS.of (fun h g ko eg kog p Q q => ?_)⟩
    · refine T_X10_ways (d := 1298) _ _ _ _ ko (C_cr (d := 1296) p ok _ _ _ ko (fun z _ => absurd z hC) (fun z _ => absurd z hC) (fun _ => ⟨_, rfl, ko, fun z => absurd z (by decide), fun _ => ?_⟩))
      rw [m2]
      exact q h (eb_fx.rfl ko) p
    · refine T_X11_ways (d := 1297) _ _ _ _ ko ?_
      rw [← eg]
      refine M_nc (d := 1296) p ok _ _ _ kog (fun z _ => absurd z hC) (fun z _ => absurd z hC) (fun _ => ⟨_, rfl, kog, fun z => absurd z (by decide), fun _ => ?_⟩)
      rw [m2]
      exact q g (eb_fm.rfl kog) p
/-! fractions in lowest terms -/
theorem ed_gcd_odd {A k : Nat} (h : A % 2 = 1) : Nat.gcd A (2 ^ k) = 1 := by
  have h2 : Nat.gcd A 2 = 1 := by
    rw [Nat.gcd_comm, Nat.gcd_rec, h]
    exact Nat.gcd_one_left 2
  exact Nat.Coprime.pow_right k h2
def ed_pt (A k : Nat) (x : Int32) : Int32 := nI ((if x = 0 then A else 2 ^ k) / Nat.gcd A (2 ^ k))
theorem ed_pt_2 {A k : Nat} {x : Int32} : ed_pt (2 * A) (k + 1) x = ed_pt A k x := by
  unfold ed_pt
  have e : (2 : Nat) ^ (k + 1) = 2 * 2 ^ k := by rw [Nat.pow_succ, Nat.mul_comm]
  rw [e, Nat.gcd_mul_left]
  by_cases z : x = 0
  · rw [if_pos z, if_pos z, Nat.mul_div_mul_left _ _ (by decide)]
  · rw [if_neg z, if_neg z, Nat.mul_div_mul_left _ _ (by decide)]
theorem ed_pt_1 {A k : Nat} {x : Int32} (h : A % 2 = 1 ∨ k = 0) : ed_pt A k x = nI (if x = 0 then A else 2 ^ k) := by
  unfold ed_pt
  have : Nat.gcd A (2 ^ k) = 1 := by
    rcases h with h | h
    · exact ed_gcd_odd h
    · rw [h]; exact Nat.gcd_one_right A
  rw [this, Nat.div_one]
theorem ed_sh1 {A : Nat} (h : A < 2 ^ 62) : lN A >>> ((1 : Int32).toInt64 &&& 63) = lN (A / 2) := by
  have e : (1 : Int32).toInt64 &&& 63 = lN 1 := wb_c 1 (by decide)
  rw [e]
  exact pf_shr (ec_smL 1 (by decide)) h
theorem C_pa {d : Nat} {h : eb_H} {Q : Option Value → eb_H → Prop} (x : Int32) (ko : eb_KO h) (A n : Nat) (hA : A < 2 ^ 31) (hn : n ≤ 8) (q : Q (some (.int (ed_pt A (2 * n) x))) h) : eb_Ct d 155 [.long (lN A), .int (nI n), .int x] h Q := by
  have key : ∀ (k A i : Nat), i + k ≤ 16 → A < 2 ^ 31 → Q (some (.int (ed_pt A k x))) h → eb_Sn d m_X10_partOfAll h 13 [(3, .int x), (4, .long (lN A)), (6, .long (lN (2 ^ k))), (8, .int (nI i))] [] h Q := by
    intro k
    induction k with
    | zero =>
      intro A i hi hA q
      rw [ed_pt_1 (Or.inr rfl)] at q
      have fin : Q (some (.int ((if x = 0 then lN A else lN (2 ^ 0) : Int64).toInt32))) h := by
        by_cases z : x = 0
        · rw [if_pos z] at q ⊢
          rw [lN_i]; exact q
        · rw [if_neg z] at q ⊢
          rw [lN_i]; exact q
      exact b_X10_partOfAll_13 _ _ _ _ ko ⟨fun _ => fin, fun _ => ⟨fun _ => fin, fun z => absurd (by decide) z⟩⟩
    | succ k ih =>
      intro A i hi hA q
      have p0 : 0 < 2 ^ k := Nat.pow_pos (by decide)
      have p1 : (2 : Nat) ^ (k + 1) = 2 * 2 ^ k := by rw [Nat.pow_succ, Nat.mul_comm]
      have p2 : (2 : Nat) ^ (k + 1) ≤ 2 ^ 16 := Nat.pow_le_pow_right (by decide) (by omega)
      have p3 : (2 : Nat) ^ 16 = 65536 := by decide
      have nl : ¬ (lN (2 ^ (k + 1)) ≤ 1) := fun z => by
        have z : lN (2 ^ (k + 1)) ≤ lN 1 := z
        rw [lN_le (by omega) (by omega)] at z
        omega
      have b0 : lN (A % 2) = 0 ↔ A % 2 = 0 := lN_eq (b := 0) (by omega) (by omega)
      refine b_X10_partOfAll_13 _ _ _ _ ko ⟨fun z => absurd z (nI_ge (a := i) (b := 16) (by omega) (by omega)), fun _ => ⟨fun z => absurd z nl, fun _ => ?_⟩⟩
      rw [wb_a1 (by omega), b0, ed_sh1 (by omega), ed_sh1 (by omega), nI_1]
      refine ⟨fun z => ?_, fun z => ?_⟩
      · rw [ed_pt_1 (Or.inl (by omega))] at q
        by_cases y : x = 0
        · rw [if_pos y] at q ⊢
          rw [lN_i]; exact q
        · rw [if_neg y] at q ⊢
          rw [lN_i]; exact q
      · have eA : A = 2 * (A / 2) := by omega
        rw [eA, ed_pt_2] at q
        rw [show 2 ^ (k + 1) / 2 = 2 ^ k by omega]
        exact ih (A / 2) (i + 1) (by omega) (by omega) q
  have e2 : (2 : Int32) * nI n = nI (2 * n) := pk_mul 2 n
  have sh : (1 : Int64) <<< (((2 : Int32) * nI n).toInt64 &&& 63) = lN (2 ^ (2 * n)) := by
    rw [e2]
    have := wb_shl 1 (k := 2 * n) (by omega)
    rw [Nat.one_mul] at this
    exact this
  refine T_X10_partOfAll _ _ _ ko ?_
  rw [sh]
  exact key (2 * n) A 0 (by omega) hA q
theorem M_gcd {h : eb_H} {Q : Option Value → eb_H → Prop} (ko : eb_KO h) : ∀ (k d a b : Nat), b < 2 ^ k → a < 2 ^ 31 → b < 2 ^ 31 → Q (some (.int (nI (Nat.gcd a b)))) h → eb_Ct (d + 2 * k + 1) 271 [.int (nI a), .int (nI b)] h Q := by
  have zero : ∀ (Q' : Option Value → eb_H → Prop) (d a : Nat), Q' (some (.int (nI a))) h → eb_Ct (d + 1) 271 [.int (nI a), .int (nI 0)] h Q' := fun Q' d a q => T_X11_common (d := d) _ _ ko ⟨fun z => absurd rfl z, fun _ => q⟩
  have gr : ∀ a b, Nat.gcd a b = Nat.gcd b (a % b) := fun a b => by rw [Nat.gcd_comm a b, Nat.gcd_rec b a, Nat.gcd_comm]
  have stp : ∀ (d a b : Nat) (Q' : Option Value → eb_H → Prop), 0 < b → a < 2 ^ 31 → b < 2 ^ 31 → eb_Ct d 271 [.int (nI b), .int (nI (a % b))] h (fun r h3 => ∃ y4, r = some (.int y4) ∧ eb_KO h3 ∧ Q' (some (.int y4)) h3) → eb_Ct (d + 1) 271 [.int (nI a), .int (nI b)] h Q' := fun d a b Q' b0 ha hb w => by
    have nz : ¬ nI b = 0 := nI_ne0 b0 hb
    refine T_X11_common (d := d) _ _ ko ⟨fun _ => ⟨nz, ?_⟩, fun z => absurd z nz⟩
    rw [pk_rem ha b0 hb]
    exact w
  intro k
  induction k generalizing Q with
  | zero =>
    intro d a b hb ha _ q
    have : b = 0 := by omega
    subst this
    rw [Nat.gcd_zero_right] at q
    exact zero Q d a q
  | succ k ih =>
    intro d a b hb ha hb2 q
    by_cases b0 : b = 0
    · subst b0
      rw [Nat.gcd_zero_right] at q
      exact zero Q (d + 2 * (k + 1)) a q
    · have m1 : a % b < b := Nat.mod_lt _ (by omega)
      refine stp (d + 2 * (k + 1)) a b Q (by omega) ha hb2 ?_
      rw [gr] at q
      by_cases r0 : a % b = 0
      · rw [r0] at q ⊢
        rw [Nat.gcd_zero_right] at q
        exact T_X11_common (d := d + 2 * k + 1) _ _ ko ⟨fun z => absurd rfl z, fun _ => ⟨_, rfl, ko, q⟩⟩
      · have m2 : b % (a % b) < a % b := Nat.mod_lt _ (by omega)
        have m3 : 2 * (b % (a % b)) < b := by
          have := Nat.div_add_mod b (a % b)
          have d1 : 1 ≤ b / (a % b) := (Nat.one_le_div_iff (by omega)).mpr (by omega)
          have : a % b * 1 ≤ a % b * (b / (a % b)) := Nat.mul_le_mul_left _ d1
          omega
        have p1 : (2 : Nat) ^ (k + 1) = 2 * 2 ^ k := by rw [Nat.pow_succ, Nat.mul_comm]
        refine stp (d + 2 * k + 1) b (a % b) _ (by omega) hb2 (by omega) ?_
        rw [gr] at q
        exact ih (Q := fun r h3 => ∃ y4, r = some (.int y4) ∧ eb_KO h3 ∧ ∃ y5, some (Value.int y4) = some (.int y5) ∧ eb_KO h3 ∧ Q (some (.int y5)) h3) d (a % b) (b % (a % b)) (by omega) (by omega) (by omega) ⟨_, rfl, ko, _, rfl, ko, q⟩
theorem M_pt {d : Nat} {h : eb_H} {Q : Option Value → eb_H → Prop} (x : Int32) (ko : eb_KO h) (A n : Nat) (hA : A < 2 ^ 31) (hn : n ≤ 8) (q : Q (some (.int (ed_pt A (2 * n) x))) h) : eb_Ct (d + 40) 272 [.long (lN A), .int ((1 : Int32) <<< (((2 : Int32) * nI n) &&& 31)), .int x] h Q := by
  have e2 : (2 : Int32) * nI n = nI (2 * n) := pk_mul 2 n
  have p2 : (2 : Nat) ^ (2 * n) ≤ 2 ^ 16 := Nat.pow_le_pow_right (by decide) (by omega)
  have p3 : (2 : Nat) ^ 16 = 65536 := by decide
  have p0 : 0 < 2 ^ (2 * n) := Nat.pow_pos (by decide)
  have g0 : 0 < Nat.gcd A (2 ^ (2 * n)) := Nat.gcd_pos_of_pos_right _ p0
  have g1 : Nat.gcd A (2 ^ (2 * n)) ≤ 2 ^ (2 * n) := Nat.le_of_dvd p0 (Nat.gcd_dvd_right _ _)
  rw [e2, ec_shl1 (by omega)]
  refine T_X11_part (d := d + 39) _ _ _ ko ?_
  rw [lN_i]
  refine M_gcd (Q := _) ko 19 d A (2 ^ (2 * n)) (Nat.lt_of_le_of_lt p2 (by decide)) hA (by omega) ⟨_, rfl, ko, nI_ne0 g0 (by omega), ?_⟩
  unfold ed_pt at q
  by_cases z : x = 0
  · rw [if_pos z] at q ⊢
    rw [pk_div hA g0 (by omega)]
    exact q
  · rw [if_neg z] at q ⊢
    rw [pk_div (by omega) g0 (by omega)]
    exact q
end EBWAYS
