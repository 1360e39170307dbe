section EBWALK
variable {L : Nat} {xs : Nat → Int32}
/-! ===== walks; the flight that is traced ===== -/
def ec_wk (g : Nat → Nat → Option Nat) (G : Nat → Prop) : Nat → Nat → Prop
  | 0, n => G n
  | k + 1, n => ∃ y m, y < 4 ∧ g n y = some m ∧ ec_wk g G k m
theorem ec_wk_s {g : Nat → Nat → Option Nat} {G : Nat → Prop} {k n : Nat} : ec_wk g G (k + 1) n ↔ ∃ y m, y < 4 ∧ g n y = some m ∧ ec_wk g G k m := Iff.rfl
theorem ec_wk_rc {g : Nat → Nat → Option Nat} {G : Nat → Prop} {s0 : Nat} : ∀ (k n : Nat), ec_wk g G k n → ec_rc g s0 n → ∃ m, ec_rc g s0 m ∧ G m
  | 0, n, a, b => ⟨n, b, a⟩
  | k + 1, n, a, b => by
    obtain ⟨y, m, hy, e, c⟩ := a
    exact ec_wk_rc k m c (b.step hy e)
/-- st j: the stand j steps ahead of the goal; wy j: the direction out of st (j + 1) -/
def ec_tr (g : Nat → Nat → Option Nat) (s0 N : Nat) (G : Nat → Prop) (D : Nat) (st wy : Nat → Nat) : Prop := (D ≤ N ∧ st D = s0 ∧ G (st 0)) ∧ (∀ j, j ≤ D → st j < N) ∧ (∀ j, j < D → wy j < 4 ∧ g (st (j + 1)) (wy j) = some (st j)) ∧ (∀ j i, j ≤ D → i < j → ¬ ec_wk g G i (st j)) ∧ (∀ j w m, j < D → w < wy j → g (st (j + 1)) w = some m → ∀ i, i ≤ j → ¬ ec_wk g G i m)
theorem ec_tr.wk {g : Nat → Nat → Option Nat} {s0 N : Nat} {G : Nat → Prop} {D : Nat} {st wy : Nat → Nat} (t : ec_tr g s0 N G D st wy) : ∀ j, j ≤ D → ec_wk g G j (st j)
  | 0, _ => t.1.2.2
  | j + 1, h => by
    obtain ⟨a, b⟩ := t.2.2.1 j (by omega)
    exact ⟨wy j, st j, a, b, t.wk j (by omega)⟩
theorem ec_tr.rc {g : Nat → Nat → Option Nat} {s0 N : Nat} {G : Nat → Prop} {D : Nat} {st wy : Nat → Nat} (t : ec_tr g s0 N G D st wy) : ∃ m, ec_rc g s0 m ∧ G m := by
  have := t.wk D (Nat.le_refl _)
  rw [t.1.2.1] at this
  exact ec_wk_rc D s0 this (ec_rc.base g s0)
/-! whence, and whence that came .. -/
def ec_ch (pp : Nat → Nat) (K : Nat) : Nat → Nat
  | 0 => K
  | j + 1 => pp (ec_ch pp K j)
theorem ec_ch_sh (pp : Nat → Nat) (K : Nat) : ∀ j, ec_ch pp (pp K) j = ec_ch pp K (j + 1)
  | 0 => rfl
  | j + 1 => by
    show pp (ec_ch pp (pp K) j) = pp (ec_ch pp K (j + 1))
    rw [ec_ch_sh pp K j]
theorem ec_ch_ex (pp : Nat → Nat) (K : Nat) (h : ∀ k, 1 ≤ k → k ≤ K → pp k < k) : ∃ D, D ≤ K ∧ ec_ch pp K D = 0 ∧ (∀ j, j < D → 1 ≤ ec_ch pp K j) ∧ ∀ j, j ≤ D → ec_ch pp K j ≤ K := by
  induction K using Nat.strongRecOn with
  | _ K ih =>
    by_cases k0 : K = 0
    · subst k0
      refine ⟨0, Nat.le_refl _, rfl, fun j hj => absurd hj (by omega), fun j hj => ?_⟩
      rw [show j = 0 by omega]
      exact Nat.le_refl _
    · have lt := h K (by omega) (Nat.le_refl _)
      obtain ⟨D, d1, d2, d3, d4⟩ := ih (pp K) lt (fun k a b => h k a (by omega))
      refine ⟨D + 1, by omega, ?_, fun j hj => ?_, fun j hj => ?_⟩
      · rw [← ec_ch_sh]; exact d2
      · cases j with
        | zero => show 1 ≤ K; omega
        | succ j => rw [← ec_ch_sh]; exact d3 j (by omega)
      · cases j with
        | zero => exact Nat.le_refl _
        | succ j =>
          rw [← ec_ch_sh]
          have := d4 j (by omega)
          omega
theorem ec_BI.tr {g : Nat → Nat → Option Nat} {s0 N found : Nat} {ord pp pw : Nat → Nat} {t : Nat} (b : ec_BI g s0 N found ord pp pw t) (ht : 4 * found ≤ t) {G : Nat → Prop} {K : Nat} (hK : K < found) (gK : G (ord K)) (nG : ∀ j, j < K → ¬ G (ord j)) {D : Nat} (d1 : D ≤ K) (d2 : ec_ch pp K D = 0) (d3 : ∀ j, j < D → 1 ≤ ec_ch pp K j) (d4 : ∀ j, j ≤ D → ec_ch pp K j ≤ K) : ec_tr g s0 N G D (fun j => ord (ec_ch pp K j)) (fun j => pw (ec_ch pp K j)) := by
  have fle := b.le
  obtain ⟨b1, b2, b3, b4, b5, b6⟩ := b
  have A1 : ∀ j, j < D → ec_ch pp K (j + 1) < ec_ch pp K j ∧ pw (ec_ch pp K j) < 4 ∧ g (ord (ec_ch pp K (j + 1))) (pw (ec_ch pp K j)) = some (ord (ec_ch pp K j)) := fun j hj => by
    have x1 := d3 j hj
    have x2 := d4 j (by omega)
    obtain ⟨c1, c2, c3, _⟩ := b4 (ec_ch pp K j) x1 (by omega)
    exact ⟨c1, c2, c3⟩
  have key : ∀ j a w m, j < D → a < found → w < 4 → 4 * a + w < 4 * pp (ec_ch pp K j) + pw (ec_ch pp K j) → g (ord a) w = some m → ∃ k, k < ec_ch pp K j ∧ ord k = m := fun j a w m hj ha hw hk e => by
    have x1 := d3 j hj
    have x2 := d4 j (by omega)
    obtain ⟨k, hk1, hk2, hk3⟩ := b6 a w m hw (by omega) ha e
    refine ⟨k, ?_, hk2⟩
    rcases hk3 with z | z
    · omega
    · refine Classical.byContradiction fun u => ?_
      by_cases e2 : k = ec_ch pp K j
      · rw [e2] at z; omega
      · have := b5 (ec_ch pp K j) k x1 (by omega) hk1
        omega
  have C : ∀ j, j ≤ D → ∀ a, a < ec_ch pp K j → ∀ i, i ≤ j → ¬ ec_wk g G i (ord a) := by
    intro j
    induction j with
    | zero =>
      intro _ a ha i hi w
      rw [show i = 0 by omega] at w
      exact nG a ha w
    | succ j ih =>
      intro hj a ha i hi w
      obtain ⟨y1, y2, y3⟩ := A1 j (by omega)
      cases i with
      | zero => exact ih (by omega) a (by omega) 0 (by omega) w
      | succ i =>
        obtain ⟨y, m, hy, e, c⟩ := w
        have x2 := d4 j (by omega)
        have ha' : a < pp (ec_ch pp K j) := ha
        obtain ⟨k, hk, ek⟩ := key j a y m (by omega) (by omega) hy (by omega) e
        rw [← ek] at c
        exact ih (by omega) k hk i (by omega) c
  refine ⟨⟨by omega, ?_, gK⟩, fun j hj => b2 _ (by have := d4 j hj; omega), fun j hj => (A1 j hj).2, fun j i hj hi => ?_, fun j w m hj hw e i hi => ?_⟩
  · show ord (ec_ch pp K D) = s0
    rw [d2]; exact b1.2
  · cases j with
    | zero => omega
    | succ j => exact C j (by omega) _ (A1 j (by omega)).1 i (by omega)
  · have hw' : w < pw (ec_ch pp K j) := hw
    have x2 := d4 (j + 1) (by omega)
    obtain ⟨k, hk, ek⟩ := key j (ec_ch pp K (j + 1)) w m hj (by omega) (by have := (A1 j hj).2.1; omega) (by show 4 * pp (ec_ch pp K j) + w < _; omega) e
    rw [← ek]
    exact C j (by omega) k hk i hi
/-! a pair where the class's run says what the answer is -/
theorem eb_pr2 {kx km : Nat} {args : List Value} {k : Nat} {h : eb_H} (inv : eb_Inv L xs k h) (H : ∀ w, eb_okW w → ∃ R : Int32 → eb_Wo → Prop, (∀ y w', R y w' → eb_okW w' ∧ w'.fed ≤ w.fed + 20) ∧ (∀ h, eb_KO h → PX w h → eb_Ct 1299 kx (.ref s_EB :: args) h (fun r h' => ∃ y w', r = some (.int y) ∧ eb_fx h h' ∧ PX w' h' ∧ R y w')) ∧ ∀ y w', R y w' → eb_MS km args w w' (.int y)) : eb_Pr kx km args (eb_Inv L xs (k + 1)) h := by
  obtain ⟨ko, eL, eX, w, b1, b2, b3, b4, b5, b6⟩ := inv
  obtain ⟨R, H1, H2, H3⟩ := H w b3
  refine (H2 h ko b1).mono ?_
  rintro r h1 ⟨y, w', rfl, ⟨ko1, n1, s1⟩, p1, hR⟩
  obtain ⟨ok', hf⟩ := H1 y w' hR
  refine ⟨y, rfl, ko1, n1.2.2.1, n1.2.2.2, (H3 y w' hR h1 ko1 (b2.mvK s1)).mono ?_⟩
  rintro r h2 ⟨rfl, ⟨ko2, n2, s2⟩, p2⟩
  refine ⟨rfl, ko2, (n2.2.2.1.trans n1.2.2.1).trans eL, (n2.2.2.2.trans n1.2.2.2).trans eX, w', p1.mvM s2, p2, ok', ?_, ?_, ?_⟩
  · rw [n2.1, n1.1]; exact b4
  · rw [n2.1, n1.1]; omega
  · rw [n2.2.1, n1.2.1]; omega
/-! coming: which stands are goals, which calls are refused -/
def ec_goal (c a b n : Nat) : Prop := n / 64 = c ∧ (n % 64) &&& a = a ∧ (n % 64) &&& b = 0
theorem ec_glX {c a b n : Nat} (hn : n < 1024) (hc : c < 16) (ha : a < 64) (hb : b < 64) : ((nI (ec_cd n) &&& 15 = nI c) ∧ (((nI (ec_cd n) >>> ((4 : Int32) &&& 31)) &&& nI a = nI a) ∧ ((nI (ec_cd n) >>> ((4 : Int32) &&& 31)) &&& nI b = 0))) ↔ ec_goal c a b n := by
  obtain ⟨q1, q2⟩ := ec_c4 (c := n / 64) (e := n % 64) (by omega) (by omega)
  have l1 := ec_and_lt (n % 64) ha
  have l2 := ec_and_lt (n % 64) hb
  unfold ec_cd ec_goal
  rw [q1, q2, nI_eq (by omega) (by omega), ec_and (by omega) (by omega), ec_and (by omega) (by omega), nI_eq (by omega) (by omega), show (0 : Int32) = nI 0 from rfl, nI_eq (by omega) (by omega)]
theorem ec_glM {c a b n : Nat} (hn : n < 1024) (hc : c < 16) (ha : a < 64) (hb : b < 64) : ((nI n / 64 = nI c) ∧ ((nI n &&& nI a = nI a) ∧ (nI n &&& nI b = 0))) ↔ ec_goal c a b n := by
  have l1 := ec_and_lt n ha
  have l2 := ec_and_lt n hb
  unfold ec_goal
  rw [show nI n / 64 = nI (n / 64) from pk_div (d := 64) (by omega) (by omega) (by omega), nI_eq (by omega) (by omega), ec_and (by omega) (by omega), ec_and (by omega) (by omega), nI_eq (by omega) (by omega), show (0 : Int32) = nI 0 from rfl, nI_eq (by omega) (by omega), ec_a64 n ha, ec_a64 n hb]
def ec_okC (w : eb_Wo) (v1 : Int32) : Prop := 0 ≤ v1.toInt ∧ v1.toInt < (w.va.R * w.va.W : Nat)
def ec_okE (v2 v3 : Int32) : Prop := (0 ≤ v2.toInt ∧ v2.toInt < (64 : Nat)) ∧ (0 ≤ v3.toInt ∧ v3.toInt < (64 : Nat)) ∧ v2 &&& v3 = 0
theorem ec_nsX {v2 v3 : Int32} : (((v2 < 0) ∨ (¬ (v2 < (64 : Int32)))) ∨ ((v3 < 0) ∨ ((¬ (v3 < (64 : Int32))) ∨ (¬ ((v2 &&& v3) = 0))))) ↔ ¬ ec_okE v2 v3 := by
  unfold ec_okE
  rw [eb_i32, eb_i32, eb_i32, eb_i32, show (0 : Int32).toInt = 0 from rfl, show (64 : Int32).toInt = 64 from rfl]
  by_cases z : v2 &&& v3 = 0
  · simp only [z, not_true_eq_false, or_false, and_true]
    omega
  · simp only [z, not_false_eq_true, or_true, and_false]
theorem C_ns {d : Nat} {h : eb_H} {Q : Option Value → eb_H → Prop} (v2 v3 : Int32) (ko : eb_KO h) (q1 : ec_okE v2 v3 → Q (some (.int 0)) h) (q2 : ¬ ec_okE v2 v3 → Q (some (.int 1)) h) : eb_Ct (d + 1) 144 [.int v2, .int v3] h Q := by
  refine T_X10_notSets (d := d) _ _ ko ?_
  by_cases z : ec_okE v2 v3
  · exact ec_qn (Q := fun y => Q (some (.int y)) h) (fun u => ec_nsX.mp u z) (q1 z)
  · exact ec_qp (Q := fun y => Q (some (.int y)) h) (ec_nsX.mpr z) (q2 z)
theorem C_cr {d : Nat} {h : eb_H} {Q : Option Value → eb_H → Prop} {w : eb_Wo} (p : PX w h) (ok : eb_okW w) (v1 v2 v3 : Int32) (ko : eb_KO h) (q1 : ec_okC w v1 → ec_okE v2 v3 → Q (some (.int 0)) h) (q2 : ec_okC w v1 → ¬ ec_okE v2 v3 → Q (some (.int (-3))) h) (q3 : ¬ ec_okC w v1 → Q (some (.int (-2))) h) : eb_Ct (d + 2) 145 [.ref s_EB, .int v1, .int v2, .int v3] h Q := by
  obtain ⟨v, ev, pv⟩ := p.va
  refine T_X10_comingRefusal (d := d + 1) _ _ _ ko ⟨v, ev, pv.1.1, fun z => ?_, fun z => q3 (fun u => z ((X_has pv ok.va _).mpr u))⟩
  exact C_ns v2 v3 ko (fun u => ⟨_, rfl, ko, q1 ((X_has pv ok.va _).mp z) u⟩) (fun u => ⟨_, rfl, ko, q2 ((X_has pv ok.va _).mp z) u⟩)
theorem M_nc {d : Nat} {h : eb_H} {Q : Option Value → eb_H → Prop} {w : eb_Wo} (p : PM w h) (ok : eb_okW w) (v1 v2 v3 : Int32) (ko : eb_KO h) (q1 : ec_okC w v1 → ec_okE v2 v3 → Q (some (.int 0)) h) (q2 : ec_okC w v1 → ¬ ec_okE v2 v3 → Q (some (.int (-3))) h) (q3 : ¬ ec_okC w v1 → Q (some (.int (-2))) h) : eb_Ct (d + 2) 233 [.ref s_MO, .int v1, .int v2, .int v3] h Q := by
  refine T_X11_noComing (d := d) _ _ _ ko ?_
  by_cases z : ec_okC w v1
  · rw [if_pos ((M_has p.va ok.va v1).mpr z)]
    by_cases u : ec_okE v2 v3
    · have u' := u
      unfold ec_okE at u'
      have c63 : (63 : Int64).toInt = 63 := rfl
      have c0 : (0 : Int64).toInt = 0 := rfl
      rw [if_neg (by rw [eb_l64a, c0]; omega), if_neg (by rw [eb_l64b, c63]; omega), if_neg (by rw [eb_l64a, c0]; omega), if_neg (by rw [eb_l64b, c63]; omega), if_pos u'.2.2]
      exact q1 z u
    · have t := q2 z u
      unfold ec_okE at u
      have c63 : (63 : Int64).toInt = 63 := rfl
      have c0 : (0 : Int64).toInt = 0 := rfl
      by_cases x1 : v2.toInt64 < 0
      · rw [if_pos x1]; exact t
      · by_cases x2 : 63 < v2.toInt64
        · rw [if_neg x1, if_pos x2]; exact t
        · by_cases x3 : v3.toInt64 < 0
          · rw [if_neg x1, if_neg x2, if_pos x3]; exact t
          · by_cases x4 : 63 < v3.toInt64
            · rw [if_neg x1, if_neg x2, if_neg x3, if_pos x4]; exact t
            · rw [if_neg x1, if_neg x2, if_neg x3, if_neg x4]
              rw [eb_l64a, c0] at x1 x3
              rw [eb_l64b, c63] at x2 x4
              rw [if_neg (fun y => u ⟨by omega, by omega, y⟩)]
              exact t
  · rw [if_neg (fun u => z ((M_has p.va ok.va v1).mp u))]
    exact q3 z
end EBWALK
