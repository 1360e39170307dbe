section EBBFS
variable {L : Nat} {xs : Nat → Int32}
/-! ===== what can be come to ===== -/
def ec_rc (g : Nat → Nat → Option Nat) (s0 m : Nat) : Prop := ∀ P : Nat → Prop, P s0 → (∀ n y k, P n → y < 4 → g n y = some k → P k) → P m
theorem ec_rc.base (g : Nat → Nat → Option Nat) (s0 : Nat) : ec_rc g s0 s0 := fun _ a _ => a
theorem ec_rc.step {g : Nat → Nat → Option Nat} {s0 n y k : Nat} (h : ec_rc g s0 n) (hy : y < 4) (e : g n y = some k) : ec_rc g s0 k := fun P a b => b n y k (h P a b) hy e
/-- pigeons -/
theorem ec_pig : ∀ (n m : Nat) (f : Nat → Nat), (∀ k, k < m → f k < n) → (∀ j k, j < m → k < m → f j = f k → j = k) → m ≤ n
  | 0, m, f, h, _ => by
    rcases Nat.eq_zero_or_pos m with z | z
    · omega
    · exact absurd (h 0 z) (by omega)
  | n + 1, m, f, h, hi => by
    by_cases ex : ∃ k, k < m ∧ f k = n
    · obtain ⟨k, hk, ek⟩ := ex
      have := ec_pig n (m - 1) (fun j => if j = k then f (m - 1) else f j) (fun j hj => by
        by_cases e : j = k
        · rw [if_pos e]
          have a := h (m - 1) (by omega)
          have b : f (m - 1) ≠ n := fun z => by
            have := hi (m - 1) k (by omega) hk (by rw [z, ek])
            omega
          omega
        · rw [if_neg e]
          have a := h j (by omega)
          have b : f j ≠ n := fun z => e (hi j k (by omega) hk (by rw [z, ek]))
          omega) (fun i j hi' hj' e => by
        by_cases e1 : i = k
        · by_cases e2 : j = k
          · omega
          · rw [if_pos e1, if_neg e2] at e
            have := hi (m - 1) j (by omega) (by omega) e
            omega
        · by_cases e2 : j = k
          · rw [if_neg e1, if_pos e2] at e
            have := hi i (m - 1) (by omega) (by omega) e
            omega
          · rw [if_neg e1, if_neg e2] at e
            exact hi i j (by omega) (by omega) e)
      omega
    · have := ec_pig n m f (fun k hk => by
        have a := h k hk
        have b : f k ≠ n := fun z => ex ⟨k, hk, z⟩
        omega) hi
      omega
/-- breadth first: the row so far, whence each came; t: 4 for each of the row that is done with, and the directions of the next -/
def ec_BI (g : Nat → Nat → Option Nat) (s0 N found : Nat) (ord pp pw : Nat → Nat) (t : Nat) : Prop := (1 ≤ found ∧ ord 0 = s0) ∧ (∀ k, k < found → ord k < N) ∧ (∀ j k, j < found → k < found → ord j = ord k → j = k) ∧ (∀ k, 1 ≤ k → k < found → pp k < k ∧ pw k < 4 ∧ g (ord (pp k)) (pw k) = some (ord k) ∧ 4 * pp k + pw k < t) ∧ (∀ j k, 1 ≤ j → j < k → k < found → 4 * pp j + pw j < 4 * pp k + pw k) ∧ (∀ p w m, w < 4 → 4 * p + w < t → p < found → g (ord p) w = some m → ∃ k, k < found ∧ ord k = m ∧ (k = 0 ∨ 4 * pp k + pw k ≤ 4 * p + w))
theorem ec_BI.init (g : Nat → Nat → Option Nat) (s0 N : Nat) (h : s0 < N) (ord pp pw : Nat → Nat) (e : ord 0 = s0) : ec_BI g s0 N 1 ord pp pw 0 :=
  ⟨⟨Nat.le_refl _, e⟩, fun k hk => by rw [show k = 0 by omega, e]; exact h, fun j k hj hk _ => by omega, fun k a b => by omega, fun j k a b c => by omega, fun p w m _ b => by omega⟩
theorem ec_BI.none {g : Nat → Nat → Option Nat} {s0 N found : Nat} {ord pp pw : Nat → Nat} {i y : Nat} (b : ec_BI g s0 N found ord pp pw (4 * i + y)) (hy : y < 4) (e : g (ord i) y = none) : ec_BI g s0 N found ord pp pw (4 * i + (y + 1)) := by
  obtain ⟨b1, b2, b3, b4, b5, b6⟩ := b
  refine ⟨b1, b2, b3, fun k h1 h2 => ?_, b5, fun p w m hw ht hp hg => ?_⟩
  · obtain ⟨c1, c2, c3, c4⟩ := b4 k h1 h2
    exact ⟨c1, c2, c3, by omega⟩
  · by_cases z : 4 * p + w < 4 * i + y
    · exact b6 p w m hw z hp hg
    · have h1 : p = i := by omega
      have h2 : w = y := by omega
      rw [h1, h2, e] at hg
      cases hg
theorem ec_BI.old {g : Nat → Nat → Option Nat} {s0 N found : Nat} {ord pp pw : Nat → Nat} {i y m0 k0 : Nat} (b : ec_BI g s0 N found ord pp pw (4 * i + y)) (hy : y < 4) (e : g (ord i) y = some m0) (hk : k0 < found) (ek : ord k0 = m0) : ec_BI g s0 N found ord pp pw (4 * i + (y + 1)) := by
  obtain ⟨b1, b2, b3, b4, b5, b6⟩ := b
  refine ⟨b1, b2, b3, fun k h1 h2 => ?_, b5, fun p w m hw ht hp hg => ?_⟩
  · obtain ⟨c1, c2, c3, c4⟩ := b4 k h1 h2
    exact ⟨c1, c2, c3, by omega⟩
  · by_cases z : 4 * p + w < 4 * i + y
    · exact b6 p w m hw z hp hg
    · have h1 : p = i := by omega
      have h2 : w = y := by omega
      rw [h1, h2, e] at hg
      cases hg
      refine ⟨k0, hk, ek, ?_⟩
      by_cases k1 : k0 = 0
      · exact Or.inl k1
      · have := (b4 k0 (by omega) hk).2.2.2
        exact Or.inr (by omega)
def ec_up (f : Nat → Nat) (k v : Nat) : Nat → Nat := fun j => if j = k then v else f j
theorem ec_up_s {f : Nat → Nat} {k v : Nat} : ec_up f k v k = v := if_pos rfl
theorem ec_up_n {f : Nat → Nat} {k v j : Nat} (h : j ≠ k) : ec_up f k v j = f j := if_neg h
theorem ec_BI.new {g : Nat → Nat → Option Nat} {s0 N found : Nat} {ord pp pw : Nat → Nat} {i y m0 : Nat} (b : ec_BI g s0 N found ord pp pw (4 * i + y)) (hi : i < found) (hy : y < 4) (e : g (ord i) y = some m0) (hm : m0 < N) (nk : ∀ k, k < found → ord k ≠ m0) : ec_BI g s0 N (found + 1) (ec_up ord found m0) (ec_up pp found i) (ec_up pw found y) (4 * i + (y + 1)) := by
  obtain ⟨b1, b2, b3, b4, b5, b6⟩ := b
  refine ⟨⟨by omega, by rw [ec_up_n (by omega)]; exact b1.2⟩, fun k hk => ?_, fun j k hj hk ejk => ?_, fun k h1 h2 => ?_, fun j k h1 h2 h3 => ?_, fun p w m hw ht hp hg => ?_⟩
  · by_cases z : k = found
    · rw [z, ec_up_s]; exact hm
    · rw [ec_up_n z]; exact b2 k (by omega)
  · by_cases z : j = found
    · by_cases z2 : k = found
      · omega
      · rw [z, ec_up_s, ec_up_n z2] at ejk
        exact absurd ejk.symm (nk k (by omega))
    · by_cases z2 : k = found
      · rw [z2, ec_up_s, ec_up_n z] at ejk
        exact absurd ejk (nk j (by omega))
      · rw [ec_up_n z, ec_up_n z2] at ejk
        exact b3 j k (by omega) (by omega) ejk
  · by_cases z : k = found
    · rw [z, ec_up_s, ec_up_s, ec_up_s, ec_up_n (show i ≠ found by omega)]
      exact ⟨hi, hy, e, by omega⟩
    · obtain ⟨c1, c2, c3, c4⟩ := b4 k h1 (by omega)
      rw [ec_up_n z, ec_up_n z, ec_up_n z, ec_up_n (show pp k ≠ found by omega)]
      exact ⟨c1, c2, c3, by omega⟩
  · have c4 := (b4 j h1 (by omega)).2.2.2
    rw [ec_up_n (show j ≠ found by omega), ec_up_n (show j ≠ found by omega)]
    by_cases z : k = found
    · rw [z, ec_up_s, ec_up_s]; exact c4
    · rw [ec_up_n z, ec_up_n z]
      exact b5 j k h1 h2 (by omega)
  · have pn : p < found := by omega
    rw [ec_up_n (show p ≠ found by omega)] at hg
    by_cases z : 4 * p + w < 4 * i + y
    · obtain ⟨k, hk, ek, hh⟩ := b6 p w m hw z pn hg
      refine ⟨k, by omega, by rw [ec_up_n (by omega)]; exact ek, ?_⟩
      rw [ec_up_n (show k ≠ found by omega), ec_up_n (show k ≠ found by omega)]
      exact hh
    · have h1 : p = i := by omega
      have h2 : w = y := by omega
      rw [h1, h2, e] at hg
      cases hg
      refine ⟨found, by omega, ec_up_s, Or.inr ?_⟩
      rw [ec_up_s, ec_up_s]
      omega
theorem ec_BI.nxt {g : Nat → Nat → Option Nat} {s0 N found : Nat} {ord pp pw : Nat → Nat} {i : Nat} (b : ec_BI g s0 N found ord pp pw (4 * i + 4)) : ec_BI g s0 N found ord pp pw (4 * (i + 1) + 0) := by
  rw [show 4 * (i + 1) + 0 = 4 * i + 4 by omega]
  exact b
theorem ec_BI.le {g : Nat → Nat → Option Nat} {s0 N found : Nat} {ord pp pw : Nat → Nat} {t : Nat} (b : ec_BI g s0 N found ord pp pw t) : found ≤ N := ec_pig N found ord b.2.1 b.2.2.1
/-- done: the row is what can be come to -/
theorem ec_BI.rc {g : Nat → Nat → Option Nat} {s0 N found : Nat} {ord pp pw : Nat → Nat} {t : Nat} (b : ec_BI g s0 N found ord pp pw t) (ht : 4 * found ≤ t) (m : Nat) : ec_rc g s0 m ↔ ∃ k, k < found ∧ ord k = m := by
  obtain ⟨b1, b2, b3, b4, b5, b6⟩ := b
  constructor
  · intro h
    refine h (fun m => ∃ k, k < found ∧ ord k = m) ⟨0, by omega, b1.2⟩ ?_
    rintro n y k ⟨p, hp, rfl⟩ hy e
    obtain ⟨k', hk, ek, _⟩ := b6 p y k hy (by omega) hp e
    exact ⟨k', hk, ek⟩
  · have all : ∀ k, k < found → ec_rc g s0 (ord k) := by
      intro k
      induction k using Nat.strongRecOn with
      | _ k ih =>
        intro hk
        by_cases k0 : k = 0
        · rw [k0, b1.2]; exact ec_rc.base g s0
        · obtain ⟨c1, c2, c3, _⟩ := b4 k (by omega) hk
          exact (ih (pp k) c1 (by omega)).step c2 c3
    rintro ⟨k, hk, rfl⟩
    exact all k hk
/-! the class's heap tells the row -/
def ec_SO (h : eb_H) (found : Nat) (ord pp pw : Nat → Nat) : Prop := eb_I h s_flights 4 = nI found ∧ (∀ k, k < found → eb_I h s_flights_order k = nI (ec_cd (ord k))) ∧ (∀ q, q < 1024 → (eb_I h s_flights_origins q = -1 ↔ ∀ k, k < found → ec_cd (ord k) ≠ q)) ∧ (eb_I h s_flights_origins (ec_cd (ord 0)) = nI (4 * ec_cd (ord 0))) ∧ ∀ k, 1 ≤ k → k < found → eb_I h s_flights_origins (ec_cd (ord k)) = nI (4 * ec_cd (ord (pp k)) + pw k)
theorem ec_SO.fr {h h' : eb_H} {found : Nat} {ord pp pw : Nat → Nat} (s : ec_SO h found ord pp pw) (F : ec_fr ec_fv2 h h') : ec_SO h' found ord pp pw := by
  have e1 : eb_I h' s_flights = eb_I h s_flights := F.2.2 _ (by unfold ec_fv2 ec_19 eb_kd s_flights s_flights_verdicts; omega)
  have e2 : eb_I h' s_flights_order = eb_I h s_flights_order := F.2.2 _ (by unfold ec_fv2 ec_19 eb_kd s_flights_order s_flights_verdicts; omega)
  have e3 : eb_I h' s_flights_origins = eb_I h s_flights_origins := F.2.2 _ (by unfold ec_fv2 ec_19 eb_kd s_flights_origins s_flights_verdicts; omega)
  unfold ec_SO
  rw [e1, e2, e3]
  exact s
def ec_f5 (c : Nat) : Prop := ec_fv2 c ∨ c = s_flights ∨ c = s_flights_order ∨ c = s_flights_origins
theorem ec_f5_s (c : Nat) (z : ec_f5 c) : ec_fs c := by
  rcases z with z | rfl | rfl | rfl
  · exact ec_fs_v c z
  · unfold ec_fs eb_ix s_flights; omega
  · unfold ec_fs eb_ix s_flights_order; omega
  · unfold ec_fs eb_ix s_flights_origins; omega
theorem ec_FL.keep {V : eb_Va} {s : eb_St} {D : Nat} {P : Nat → Prop} {h h' : eb_H} (f : ec_FL V s D h) (F : ec_fr P h h') (z1 : ∀ c, eb_isV c → ¬ P c) (z2 : ¬ P s_flights_state) (z3 : ¬ P (s_flights_state + 524807)) (z4 : eb_I h' s_flights 2 = eb_I h s_flights 2) (z5 : ¬ P s_flights_verdicts) : ec_FL V s D h' := by
  obtain ⟨⟨v, ev, pv⟩, ps, e2, ca⟩ := f
  refine ⟨⟨v, by rw [F.R]; exact ev, pv.fr F z1⟩, ps.fr F z2 z3, z4.trans e2, ?_⟩
  rw [F.2.2 _ z5]
  exact ca
theorem ec_cd_lt {n : Nat} (h : n < 1024) : ec_cd n < 1024 := by unfold ec_cd; omega
theorem C_spread {d : Nat} {h : eb_H} {Q : Option Value → eb_H → Prop} {V : eb_Va} {s : eb_St} (ok : eb_okV V) (os : eb_okS V s) (D : Nat) (hD : D < 65536) (fl : ec_FL V s D h) (ko : eb_KO h) (q : ∀ h' found ord pp pw, ec_fr ec_f5 h h' → ec_FL V s D h' → ec_BI (ec_g V s D) (64 * s.b + s.e) (64 * (V.R * V.W)) found ord pp pw (4 * found) → ec_SO h' found ord pp pw → Q none h') : eb_Ct (d + 6) 11 [.ref s_flights] h Q := by
  obtain ⟨r1, r2, r3, r4, r5, r6, r7, r8, r9, r10, _⟩ := ok.RW
  obtain ⟨n1, n2, n3, n4, n5, n6, n7⟩ := os.N ok
  refine T_X1_spread (d := d + 4) ko (C_fillI s_flights_origins (-1) (by decide) ko (fun h1 F1 b1 => ⟨rfl, F1.ko ko, ?_⟩))
  have ps := fl.2.1
  have ps1 : PXS h1 s_flights_state s := ps.fr F1 (by decide) (by decide)
  have ec : (16 : Int32) * (eb_I h1 s_flights_state 1) + (eb_I h1 s_flights_state 0) = nI (16 * s.e + s.b) := by
    rw [ps1.2.1, ps1.1, n1, n2, show (16 : Int32) * nI s.e = nI (16 * s.e) from pk_mul 16 _, nI_add]
  rw [ec]
  have ei : (if (¬ (nI (16 * s.e + s.b) < 0)) ∧ (¬ ((1024 : Int32) ≤ nI (16 * s.e + s.b))) then nI (16 * s.e + s.b) else 0 : Int32) = nI (16 * s.e + s.b) := if_pos ⟨nI_pos (by omega), nI_ge (a := 16 * s.e + s.b) (b := 1024) (by omega) (by omega)⟩
  rw [ei, eb_cln (by omega), ec_t0, show (4 : Int32) * nI (16 * s.e + s.b) = nI (4 * (16 * s.e + s.b)) from pk_mul 4 _]
  refine ⟨vp_in_nI (by omega) (by omega), ?_⟩
  have cs : ec_cd (64 * s.b + s.e) = 16 * s.e + s.b := by
    unfold ec_cd
    rw [(ec_sq n5).1, (ec_sq n5).2]
  -- the loops
  have inner : ∀ (i : Nat), (∀ (g : eb_H) (found : Nat) (ord pp pw : Nat → Nat), ec_fr ec_f5 h g → ec_FL V s D g → ec_BI (ec_g V s D) (64 * s.b + s.e) (64 * (V.R * V.W)) found ord pp pw (4 * (i + 1) + 0) → i + 1 ≤ found → ec_SO g found ord pp pw → eb_Sn (d + 6) m_X1_spread h 36 [(0, .ref s_flights), (2, .int (nI (i + 1)))] [] g Q) → ∀ (m y : Nat) (g : eb_H) (found : Nat) (ord pp pw : Nat → Nat), y + m = 4 → i < found → ec_fr ec_f5 h g → ec_FL V s D g → ec_BI (ec_g V s D) (64 * s.b + s.e) (64 * (V.R * V.W)) found ord pp pw (4 * i + y) → ec_SO g found ord pp pw → eb_Sn (d + 6) m_X1_spread h 53 [(0, .ref s_flights), (2, .int (nI i)), (3, .int (nI y))] [] g Q := by
    intro i nxt m
    induction m with
    | zero =>
      intro y g found ord pp pw hy hi F f b so
      have hy : y = 4 := by omega
      subst hy
      refine b_X1_spread_53 (d := d + 4) _ _ (F.ko ko) ⟨fun _ => ?_, fun z => absurd (by decide) z⟩
      rw [nI_1]
      exact nxt g found ord pp pw F f b.nxt (by omega) so
    | succ m ih =>
      intro y g found ord pp pw hy hi F f b so
      have fle := b.le
      have kog := F.ko ko
      have on : ord i < 64 * (V.R * V.W) := b.2.1 i hi
      have eo : eb_I g s_flights_order (nI i).toNatClampNeg = nI (16 * (ord i % 64) + ord i / 64) := by
        rw [eb_cln (by omega)]
        exact so.2.1 i hi
      refine b_X1_spread_53 (d := d + 4) _ _ kog ⟨fun z => absurd z (nI_ge (a := y) (b := 4) (by omega) (by omega)), fun _ => ⟨vp_in_nI (by omega) (by omega), ?_⟩⟩
      rw [eo, nI_1]
      refine C_ca (d := d + 1) ok os D hD f (ord i / 64) (ord i % 64) y (by omega) (by omega) (by omega) kog (fun h3 F3 f3 => ⟨_, rfl, F3.ko kog, ?_⟩)
      have so3 := so.fr F3
      have F' : ec_fr ec_f5 h h3 := F.trans (F3.weak (fun c z => Or.inl z))
      rw [show 64 * (ord i / 64) + ord i % 64 = ord i by omega]
      cases hg : ec_g V s D (ord i) y with
      | none =>
        refine ⟨fun _ => ih (y + 1) h3 found ord pp pw (by omega) hi F' f3 (b.none (by omega) hg) so3, fun z => ?_⟩
        exact absurd (show ((-1 : Int32) < 0) by decide) z.1
      | some m0 =>
        have hm0 := ec_g_lt ok os on hg
        have c0 := ec_cd_lt (show m0 < 1024 by omega)
        have yn : ec_oi ((some m0).map ec_cd) = nI (ec_cd m0) := rfl
        rw [yn]
        refine ⟨fun z => absurd ⟨nI_pos (by omega), nI_ge (a := ec_cd m0) (b := 1024) c0 (by omega)⟩ z, fun _ => ⟨vp_in_nI c0 (by omega), ?_⟩⟩
        rw [eb_cln (n := ec_cd m0) (by omega)]
        have orgs := so3.2.2.1 (ec_cd m0) c0
        refine ⟨fun z => ?_, fun z => ?_⟩
        · have ex : ∃ k, k < found ∧ ord k = m0 := by
            refine Classical.byContradiction fun u => z (orgs.mpr fun k hk e => u ⟨k, hk, ?_⟩)
            have ok' := b.2.1 k hk
            exact (ec_cd_inj (by omega) (by omega)).mp e
          obtain ⟨k, hk, ek⟩ := ex
          exact ih (y + 1) h3 found ord pp pw (by omega) hi F' f3 (b.old (by omega) hg hk ek) so3
        · have nk : ∀ k, k < found → ord k ≠ m0 := fun k hk e => (orgs.mp z) k hk (by rw [e])
          have bn := b.new hi (by omega) hg hm0 nk
          have fle2 := bn.le
          rw [so3.1]
          refine ⟨fun _ => ⟨vp_in_nI (by omega) (by omega), vp_in_nI c0 (by omega), ?_⟩, fun u => absurd (nI_lt (b := 1024) (by omega) (by omega)) u⟩
          have eo3 : eb_I h3 s_flights_order (nI i).toNatClampNeg = nI (ec_cd (ord i)) := by
            rw [eb_cln (by omega)]
            exact so3.2.1 i hi
          have ci := ec_cd_lt (show ord i < 1024 by omega)
          rw [eo3, show (4 : Int32) * nI (ec_cd (ord i)) = nI (4 * ec_cd (ord i)) from pk_mul 4 _, nI_add]
          have e4 : eb_I (eb_sI h3 s_flights_origins (ec_cd m0) (nI (4 * ec_cd (ord i) + y))) s_flights 4 = nI found := by
            rw [eb_I_sIn (by decide)]; exact so3.1
          rw [e4, eb_cln (n := found) (by omega)]
          have e5 : eb_I (eb_sI (eb_sI h3 s_flights_origins (ec_cd m0) (nI (4 * ec_cd (ord i) + y))) s_flights_order found (nI (ec_cd m0))) s_flights 4 = nI found := by
            rw [eb_I_sIn (by decide)]; exact e4
          rw [e5, nI_1]
          refine ⟨vp_in_nI (by omega) (by omega), ?_⟩
          have FN : ec_fr (fun c => c = s_flights ∨ c = s_flights_order ∨ c = s_flights_origins) h3 (eb_sI (eb_sI (eb_sI h3 s_flights_origins (ec_cd m0) (nI (4 * ec_cd (ord i) + y))) s_flights_order found (nI (ec_cd m0))) s_flights 4 (nI (found + 1))) := ((ec_fr.rfl.sI (Or.inr (Or.inr rfl))).sI (Or.inr (Or.inl rfl))).sI (Or.inl rfl)
          refine ih (y + 1) _ (found + 1) _ _ _ (by omega) (by omega) (F'.trans (FN.weak (fun c z => Or.inr z))) ?_ bn ?_
          · refine f3.keep FN (fun c z y => ?_) (by decide) (by decide) ?_ (by decide)
            · unfold eb_isV at z
              rcases y with rfl | rfl | rfl
              · unfold eb_ix s_flights at z; omega
              · unfold eb_ix s_flights_order at z; omega
              · unfold eb_ix s_flights_origins at z; omega
            · rw [eb_I_sI, if_neg (by decide), eb_I_sIn (by decide), eb_I_sIn (by decide)]
          · refine ⟨eb_I_sI', fun k hk => ?_, fun q' hq => ?_, ?_, fun k h1 h2 => ?_⟩
            · rw [eb_I_sIn (by decide), eb_I_sI]
              by_cases e : k = found
              · rw [if_pos e, e, ec_up_s]
              · rw [if_neg e, ec_up_n e, eb_I_sIn (by decide)]
                exact so3.2.1 k (by omega)
            · rw [eb_I_sIn (by decide), eb_I_sIn (by decide), eb_I_sI]
              by_cases e : q' = ec_cd m0
              · rw [if_pos e]
                refine ⟨fun u => absurd u (ec_m1 (by omega)), fun u => ?_⟩
                exact absurd (by rw [ec_up_s, e]) (u found (by omega))
              · rw [if_neg e, so3.2.2.1 q' hq]
                constructor
                · intro u k hk
                  by_cases ek : k = found
                  · rw [ek, ec_up_s]; exact fun x => e x.symm
                  · rw [ec_up_n ek]; exact u k (by omega)
                · intro u k hk
                  have := u k (by omega)
                  rw [ec_up_n (show k ≠ found by omega)] at this
                  exact this
            · have o0 : ec_cd (ord 0) ≠ ec_cd m0 := fun x => nk 0 (by omega) ((ec_cd_inj (by have := b.2.1 0 (by omega); omega) (by omega)).mp x)
              rw [ec_up_n (show 0 ≠ found by omega), eb_I_sIn (by decide), eb_I_sIn (by decide), eb_I_sI, if_neg o0]
              exact so3.2.2.2.1
            · rw [eb_I_sIn (by decide), eb_I_sIn (by decide), eb_I_sI]
              by_cases e : k = found
              · rw [e, ec_up_s, ec_up_s, ec_up_s, if_pos rfl, ec_up_n (show i ≠ found by omega)]
              · have ok2 : ec_cd (ord k) ≠ ec_cd m0 := fun x => nk k (by omega) ((ec_cd_inj (by have := b.2.1 k (by omega); omega) (by omega)).mp x)
                have pk := (b.2.2.2.1 k h1 (by omega)).1
                rw [ec_up_n e, ec_up_n e, ec_up_n e, if_neg ok2, ec_up_n (show pp k ≠ found by omega)]
                exact so3.2.2.2.2 k h1 (by omega)
  have outer : ∀ (m i : Nat) (g : eb_H) (found : Nat) (ord pp pw : Nat → Nat), i + m = 1024 → i ≤ found → ec_fr ec_f5 h g → ec_FL V s D g → ec_BI (ec_g V s D) (64 * s.b + s.e) (64 * (V.R * V.W)) found ord pp pw (4 * i + 0) → ec_SO g found ord pp pw → eb_Sn (d + 6) m_X1_spread h 36 [(0, .ref s_flights), (2, .int (nI i))] [] g Q := by
    intro m
    induction m with
    | zero =>
      intro i g found ord pp pw hi hf F f b so
      have fle := b.le
      have : i = found := by omega
      subst this
      refine b_X1_spread_36 (d := d + 4) _ (F.ko ko) ⟨fun _ => q g i ord pp pw F f b so, fun z => ?_⟩
      rw [so.1] at z
      exact absurd (Int32.le_refl _) z
    | succ m ih =>
      intro i g found ord pp pw hi hf F f b so
      have fle := b.le
      refine b_X1_spread_36 (d := d + 4) _ (F.ko ko) ?_
      rw [so.1]
      refine ⟨fun z => ?_, fun z => ⟨fun u => absurd u (nI_ge (a := i) (b := 1024) (by omega) (by omega)), fun _ => ?_⟩⟩
      · rw [nI_leI (by omega) (by omega)] at z
        have : i = found := by omega
        subst this
        exact q g i ord pp pw F f b so
      · rw [nI_leI (by omega) (by omega)] at z
        exact inner i (fun g' found' ord' pp' pw' F' f' b' hf' so' => ih (i + 1) g' found' ord' pp' pw' (by omega) hf' F' f' b' so') 4 0 g found ord pp pw (by omega) (by omega) F f b so
  have F1' : ec_fr (fun c => c = s_flights ∨ c = s_flights_order ∨ c = s_flights_origins) h h1 := F1.weak (fun c z => Or.inr (Or.inr z))
  have FN : ec_fr (fun c => c = s_flights ∨ c = s_flights_order ∨ c = s_flights_origins) h (eb_sI (eb_sI (eb_sI h1 s_flights_origins (16 * s.e + s.b) (nI (4 * (16 * s.e + s.b)))) s_flights_order 0 (nI (16 * s.e + s.b))) s_flights 4 1) := ((F1'.sI (Or.inr (Or.inr rfl))).sI (Or.inr (Or.inl rfl))).sI (Or.inl rfl)
  refine outer 1024 0 _ 1 (fun _ => 64 * s.b + s.e) (fun _ => 0) (fun _ => 0) (by omega) (by omega) (FN.weak (fun c z => Or.inr z)) ?_ (ec_BI.init _ _ _ (by omega) _ _ _ rfl) ?_
  · refine fl.keep FN (fun c z y => ?_) (by decide) (by decide) ?_ (by decide)
    · unfold eb_isV at z
      rcases y with rfl | rfl | rfl
      · unfold eb_ix s_flights at z; omega
      · unfold eb_ix s_flights_order at z; omega
      · unfold eb_ix s_flights_origins at z; omega
    · rw [eb_I_sI, if_neg (by decide), eb_I_sIn (by decide), eb_I_sIn (by decide), F1.2.2 _ (by decide)]
  · have ln : eb_ln s_flights_origins = 1024 := by decide
    refine ⟨eb_I_sI', fun k hk => ?_, fun q' hq => ?_, ?_, fun k h1 h2 => absurd h1 (by omega)⟩
    · rw [eb_I_sIn (by decide), eb_I_sI, if_pos (by omega), cs]
    · show _ ↔ ∀ k, k < 1 → ec_cd (64 * s.b + s.e) ≠ q'
      rw [eb_I_sIn (by decide), eb_I_sIn (by decide), eb_I_sI, cs]
      by_cases e : q' = 16 * s.e + s.b
      · rw [if_pos e]
        exact ⟨fun u => absurd u (ec_m1 (by omega)), fun u => absurd e.symm (u 0 (by omega))⟩
      · rw [if_neg e]
        exact ⟨fun _ k _ x => e x.symm, fun _ => b1 q' (by rw [ln]; exact hq)⟩
    · rw [eb_I_sIn (by decide), eb_I_sIn (by decide), eb_I_sI, cs, if_pos rfl]
end EBBFS
