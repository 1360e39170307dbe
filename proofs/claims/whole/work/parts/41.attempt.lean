section EBATT
variable {L : Nat} {xs : Nat → Int32}
/-! counting -/
def ec_cnt (P : Nat → Bool) : Nat → Nat → Nat
  | 0, _ => 0
  | m + 1, k => (if P k = true then 1 else 0) + ec_cnt P m (k + 1)
theorem ec_cnt_le (P : Nat → Bool) : ∀ m k, ec_cnt P m k ≤ m
  | 0, _ => Nat.le_refl _
  | m + 1, k => by
    have := ec_cnt_le P m (k + 1)
    show (if P k = true then 1 else 0) + ec_cnt P m (k + 1) ≤ m + 1
    split <;> omega
theorem ec_cnt_cg {P P' : Nat → Bool} (h : ∀ k, P k = P' k) : ∀ m k, ec_cnt P m k = ec_cnt P' m k
  | 0, _ => rfl
  | m + 1, k => by
    show (if P k = true then 1 else 0) + ec_cnt P m (k + 1) = (if P' k = true then 1 else 0) + ec_cnt P' m (k + 1)
    rw [h k, ec_cnt_cg h m (k + 1)]
theorem ec_cnt_sp (P : Nat → Bool) : ∀ (a b k : Nat), ec_cnt P (a + b) k = ec_cnt P a k + ec_cnt P b (k + a)
  | 0, b, k => by
    show ec_cnt P (0 + b) k = 0 + ec_cnt P b (k + 0)
    rw [Nat.zero_add, Nat.zero_add]; rfl
  | a + 1, b, k => by
    rw [show a + 1 + b = (a + b) + 1 by omega]
    show (if P k = true then 1 else 0) + ec_cnt P (a + b) (k + 1) = (if P k = true then 1 else 0) + ec_cnt P a (k + 1) + ec_cnt P b (k + (a + 1))
    rw [ec_cnt_sp P a b (k + 1), show k + 1 + a = k + (a + 1) by omega]
    omega
theorem ec_cnt_0 (P : Nat → Bool) : ∀ (m k : Nat), (∀ q, k ≤ q → q < k + m → P q = false) → ec_cnt P m k = 0
  | 0, _, _ => rfl
  | m + 1, k, h => by
    show (if P k = true then 1 else 0) + ec_cnt P m (k + 1) = 0
    rw [h k (Nat.le_refl _) (by omega), ec_cnt_0 P m (k + 1) (fun q a b => h q (by omega) (by omega))]
    rfl
/-! the greatest of some -/
def ec_gm (B : Nat → Bool) (f : Nat → Nat) : Nat → Nat → Nat → Nat
  | 0, _, g => g
  | m + 1, j, g => ec_gm B f m (j + 1) (if B j = true then max g (f j) else g)
theorem ec_gm_s {B : Nat → Bool} {f : Nat → Nat} {m j g : Nat} : ec_gm B f (m + 1) j g = ec_gm B f m (j + 1) (if B j = true then max g (f j) else g) := rfl
theorem ec_gm_le (B : Nat → Bool) (f : Nat → Nat) (N : Nat) : ∀ (m j g : Nat), ec_gm B f m j g ≤ N ↔ g ≤ N ∧ ∀ q, j ≤ q → q < j + m → B q = true → f q ≤ N
  | 0, j, g => ⟨fun h => ⟨h, fun q a b => by omega⟩, fun h => h.1⟩
  | m + 1, j, g => by
    rw [ec_gm_s, ec_gm_le B f N m (j + 1)]
    constructor
    · rintro ⟨a, b⟩
      by_cases z : B j = true
      · rw [if_pos z] at a
        refine ⟨by omega, fun q c d e => ?_⟩
        by_cases y : q = j
        · rw [y]; omega
        · exact b q (by omega) (by omega) e
      · rw [if_neg z] at a
        refine ⟨a, fun q c d e => ?_⟩
        by_cases y : q = j
        · rw [y] at e; exact absurd e z
        · exact b q (by omega) (by omega) e
    · rintro ⟨a, b⟩
      refine ⟨?_, fun q c d e => b q (by omega) (by omega) e⟩
      by_cases z : B j = true
      · rw [if_pos z]
        have := b j (Nat.le_refl _) (by omega) z
        omega
      · rw [if_neg z]; exact a
def ec_al (B : Nat → Bool) (lab : Nat → Nat) (j k : Nat) : Bool := B k && decide (lab k = lab j)
/-- the two ways of counting who is alike come to the same greatest number -/
theorem ec_gm_eq (B : Nat → Bool) (lab : Nat → Nat) : ec_gm B (fun j => ec_cnt (ec_al B lab j) (10 - j) j) 10 0 0 = ec_gm B (fun j => ec_cnt (ec_al B lab j) 10 0) 10 0 0 := by
  apply Nat.le_antisymm
  · rw [ec_gm_le]
    refine ⟨Nat.zero_le _, fun q _ hq hB => ?_⟩
    have h1 := (ec_gm_le B (fun j => ec_cnt (ec_al B lab j) 10 0) _ 10 0 0).mp (Nat.le_refl _)
    have h2 := h1.2 q (by omega) hq hB
    have h3 := ec_cnt_sp (ec_al B lab q) q (10 - q) 0
    rw [show q + (10 - q) = 10 by omega, Nat.zero_add] at h3
    exact Nat.le_trans (by omega) h2
  · rw [ec_gm_le]
    refine ⟨Nat.zero_le _, fun q _ hq hB => ?_⟩
    have h1 := (ec_gm_le B (fun j => ec_cnt (ec_al B lab j) (10 - j) j) _ 10 0 0).mp (Nat.le_refl _)
    obtain ⟨j0, p0, m0⟩ := pk_least (fun k => ec_al B lab q k = true) ⟨q, by unfold ec_al; simp [hB]⟩
    have pq : ec_al B lab q q = true := by unfold ec_al; simp [hB]
    have hj : j0 ≤ q := by
      refine Classical.byContradiction fun z => m0 q (by omega) pq
    have hb : B j0 = true ∧ lab j0 = lab q := by
      unfold ec_al at p0
      simp at p0
      exact p0
    have h2 := h1.2 j0 (by omega) (by omega) hb.1
    have h3 := ec_cnt_sp (ec_al B lab q) j0 (10 - j0) 0
    rw [show j0 + (10 - j0) = 10 by omega, Nat.zero_add, ec_cnt_0 _ j0 0 (fun k _ b => by
      have := m0 k (by omega)
      cases hh : ec_al B lab q k with
      | true => exact absurd hh this
      | false => rfl), Nat.zero_add] at h3
    have h4 : ec_cnt (ec_al B lab q) (10 - j0) j0 = ec_cnt (ec_al B lab j0) (10 - j0) j0 := ec_cnt_cg (fun k => by unfold ec_al; rw [hb.2]) _ _
    rw [h3, h4]
    exact h2
/-! what a step brings by each wind -/
def ec_lb (w : eb_Wo) (way j : Nat) : Nat := if ec_why w.va (ec_set w.now 4 (nI j)) w.now.D w.now.b w.now.e way = 0 then (match ec_nb w.va.R w.va.W w.now.b way with
  | some to => 64 * to + ec_ne w.va (ec_set w.now 4 (nI j)) w.now.b w.now.e to
  | none => 0) else 64 * w.now.b + w.now.e
def ec_cd (s : Nat) : Nat := 16 * (s % 64) + s / 64
theorem ec_cd_inj {a b : Nat} (ha : a < 1024) (hb : b < 1024) : ec_cd a = ec_cd b ↔ a = b := by
  unfold ec_cd
  omega
theorem ec_sw {w : eb_Wo} (j : Nat) : (ec_set w.now 4 (nI j)).D = w.now.D ∧ (ec_set w.now 4 (nI j)).b = w.now.b ∧ (ec_set w.now 4 (nI j)).e = w.now.e ∧ ∀ c, (ec_set w.now 4 (nI j)).k c = w.now.k c := by
  refine ⟨rfl, rfl, rfl, fun c => ?_⟩
  unfold eb_St.k
  rw [ec_set_th, if_neg (by omega)]
theorem ec_lb_lt {w : eb_Wo} (ok : eb_okW w) (way j : Nat) : ec_lb w way j < 1024 := by
  obtain ⟨r1, r2, r3, r4, r5, r6, r7, r8, r9, r10, _⟩ := ok.va.RW
  obtain ⟨n1, n2, n3, n4, n5, n6, n7⟩ := ok.now.N ok.va
  unfold ec_lb
  split
  · cases hn : ec_nb w.va.R w.va.W w.now.b way with
    | none => dsimp only; omega
    | some to =>
      dsimp only
      have hto := ec_nb_lt n4 r6 hn
      have := ec_ne_lt (V := w.va) (s := ec_set w.now 4 (nI j)) (c := w.now.b) (e := w.now.e) (to := to) n5 (by rw [(ec_sw j).2.2.2]; exact (n7 to (by omega)).2)
      omega
  · omega
theorem C_br {d : Nat} {h : eb_H} {Q : Option Value → eb_H → Prop} {w : eb_Wo} (p : PX w h) (ok : eb_okW w) (ko : eb_KO h) (way j : Nat) (hw : way < 4) (hj : j ≤ 9) (q : ∀ g', ec_gf ec_sc h g' → Q (some (.int (nI (ec_cd (ec_lb w way j))))) g') : eb_Ct (d + 6) 152 [.ref s_EB, .int (nI j), .int (nI way)] h Q := by
  obtain ⟨v, ev, pv⟩ := p.va
  obtain ⟨r1, r2, r3, r4, r5, r6, r7, r8, r9, r10, _⟩ := ok.va.RW
  obtain ⟨n1, n2, n3, n4, n5, n6, n7⟩ := ok.now.N ok.va
  obtain ⟨w1, w2, w3, w4⟩ := ec_sw (w := w) j
  refine T_X10_broughtBy (d := d + 5) _ _ ko (C_trial (d := d + 4) p ko (fun h2 pt G2 => ⟨rfl, G2.ko ko, v, by rw [eb_R_sI, G2.R]; exact ev, pv.1.1, ?_⟩))
  have F3 : ec_fr (fun c => c = s_trial) h2 (eb_sI h2 s_trial 4 (nI j)) := ec_fr.rfl.sI rfl
  have G3 : ec_gf ec_sc h (eb_sI h2 s_trial 4 (nI j)) := G2.trans (F3.gr.weak (fun c z => by rw [z]; exact ec_trial.2.1))
  have ps3 : PXS (eb_sI h2 s_trial 4 (nI j)) s_trial (ec_set w.now 4 (nI j)) := pt.set (by omega) _
  have os3 := ec_okw ok.now j hj
  have ko3 := G3.ko ko
  generalize eb_sI h2 s_trial 4 (nI j) = h5 at G3 ps3 ko3 ⊢
  have fin : ∀ g', ec_gf ec_sc h g' → ∀ b e, b < 16 → e < 64 → 64 * b + e = ec_lb w way j → Q (some (.int ((16 : Int32) * nI e + nI b))) g' := fun g' G b e hb he z => by
    have := q g' G
    rw [← z] at this
    unfold ec_cd at this
    rw [(ec_sq he).1, (ec_sq he).2] at this
    rw [show (16 : Int32) * nI e = nI (16 * e) from pk_mul 16 e, nI_add]
    exact this
  refine C_ms (d := d) (pv.gr G3 ec_sc_V) ps3 ec_trial.1 ec_trial.2.2.2 ok.va os3 way hw ko3 (fun h' F z => ⟨_, rfl, F.ko ko3, ?_⟩) (fun h' to hn hD hm eo ps' F => ⟨_, rfl, F.ko ko3, ?_⟩)
  · have ps' : PXS h' s_trial (ec_set w.now 4 (nI j)) := ps3.fr F ec_trial.1.n19.1 ec_trial.1.n19.2
    have e1 : eb_I h' s_trial 1 = nI w.now.e := ps'.2.1.trans n2
    have e0 : eb_I h' s_trial 0 = nI w.now.b := ps'.1.trans n1
    rw [e1, e0]
    refine fin h' (G3.trans (F.gr.weak ec_19_sc)) _ _ (by omega) n5 ?_
    unfold ec_lb
    rw [if_neg]
    intro y
    rw [← w1, ← w2, ← w3] at y
    obtain ⟨to, hn, _, _, eo⟩ := ec_out_why.1 y
    rw [eo] at z
    have hto := ec_nb_lt (by rw [w2]; exact n4) r6 hn
    have tl := ec_tn_le (V := w.va) (s := ec_set w.now 4 (nI j)) (c := (ec_set w.now 4 (nI j)).b) (e := (ec_set w.now 4 (nI j)).e) (to := to) (by rw [w4]; exact (n7 to (by omega)).2)
    exact nI_pos (by omega) z
  · have hn' : ec_nb w.va.R w.va.W w.now.b way = some to := hn
    have hto := ec_nb_lt n4 r6 hn'
    have hne := ec_ne_lt (V := w.va) (s := ec_set w.now 4 (nI j)) (c := w.now.b) (e := w.now.e) (to := to) n5 (by rw [w4]; exact (n7 to (by omega)).2)
    have e1 : eb_I h' s_trial 1 = nI (ec_ne w.va (ec_set w.now 4 (nI j)) w.now.b w.now.e to) := ps'.2.1
    have e0 : eb_I h' s_trial 0 = nI to := ps'.1
    rw [e1, e0]
    refine fin h' (G3.trans (F.gr.weak (fun c z => ?_))) _ _ (by omega) hne ?_
    · rcases z with z | z
      · exact Or.inl z
      · rw [z]; exact ec_trial.2.1
    · unfold ec_lb
      rw [if_pos]
      · rw [hn']
      · unfold ec_why
        rw [hn']
        dsimp only
        rw [if_neg (show ¬ w.now.D / 2 ^ to % 2 = 1 from hD)]
        exact if_pos hm
/-! the set of winds, as bits -/
theorem ec_ors_n (f : Nat → Bool) : ∀ (m j a : Nat), j + m ≤ 10 → a < 1024 → ∃ b, b < 1024 ∧ ec_ors f m j (nI a) = nI b
  | 0, j, a, _, ha => ⟨a, ha, rfl⟩
  | m + 1, j, a, h, ha => by
    rw [ec_ors_s]
    have hp : (2 : Nat) ^ j < 2 ^ 10 := wb_lt2 (by omega)
    by_cases z : f j = true
    · rw [if_pos z, ec_or (by omega) (by omega)]
      exact ec_ors_n f m (j + 1) _ (by omega) (Nat.or_lt_two_pow (n := 10) ha hp)
    · rw [if_neg z]
      exact ec_ors_n f m (j + 1) a (by omega) ha
def ec_bi (S k : Nat) : Bool := decide (S / 2 ^ k % 2 = 1)
def ec_ma (w : eb_Wo) (S way : Nat) : Nat := ec_gm (ec_bi S) (fun j => ec_cnt (ec_al (ec_bi S) (ec_lb w way) j) 10 0) 10 0 0
theorem ec_ma_lt (w : eb_Wo) (S way : Nat) : ec_ma w S way ≤ 10 := by
  unfold ec_ma
  rw [ec_gm_le]
  exact ⟨by omega, fun q _ _ _ => ec_cnt_le _ _ _⟩
theorem ec_xm {x y : Nat} (hx : x < 2 ^ 31) (hy : y < 2 ^ 31) : (if nI x < nI y then nI y else nI x : Int32) = nI (max x y) := by
  by_cases z : x < y
  · rw [if_pos (nI_lt z hy), Nat.max_eq_right (by omega)]
  · rw [if_neg (nI_nlt (by omega) hx), Nat.max_eq_left (by omega)]
theorem ec_xm2 {x y : Nat} (hx : x < 2 ^ 31) (hy : y < 2 ^ 31) : (if nI x ≤ nI y then nI y else nI x : Int32) = nI (max y x) := by
  by_cases z : x ≤ y
  · rw [if_pos (nI_le z hy), Nat.max_eq_left z]
  · rw [if_neg (nI_ge (by omega) hx), Nat.max_eq_right (by omega)]
theorem C_ma {d : Nat} {h : eb_H} {Q : Option Value → eb_H → Prop} {w : eb_Wo} (p : PX w h) (ok : eb_okW w) (ko : eb_KO h) (S way : Nat) (hS : S < 1024) (hw : way < 4) (q : ∀ g', ec_gf ec_sc h g' → Q (some (.int (nI (ec_ma w S way)))) g') : eb_Ct (d + 7) 151 [.ref s_EB, .int (nI S), .int (nI way)] h Q := by
  have b1 : ∀ k, k < 10 → ((nI S >>> (nI k &&& 31)) &&& 1 = 0 ↔ ¬ ec_bi S k = true) := fun k hk => by
    rw [ec_bit1 (by omega) (by omega), ec_nI0]
    unfold ec_bi
    rw [decide_eq_true_iff]
    omega
  have b2 : ∀ k, k < 10 → ((nI S >>> (nI k &&& 31)) &&& 1 = 1 ↔ ec_bi S k = true) := fun k hk => by
    rw [ec_bit1 (by omega) (by omega), ec_nI1]
    unfold ec_bi
    rw [decide_eq_true_iff]
  have inner : ∀ (h0 : eb_H) (g0 j : Nat) (m k a : Nat) (g : eb_H), k + m = 10 → a ≤ k → ec_gf ec_sc h g → (∀ g', ec_gf ec_sc h g' → eb_Sn (d + 7) m_X10_mostAlike h0 5 [(0, .ref s_EB), (1, .int (nI S)), (2, .int (nI way)), (3, .int (if nI g0 < nI (a + ec_cnt (ec_al (ec_bi S) (ec_lb w way) j) m k) then nI (a + ec_cnt (ec_al (ec_bi S) (ec_lb w way) j) m k) else nI g0 : Int32)), (4, .int (nI (j + 1)))] [] g' Q) → eb_Sn (d + 7) m_X10_mostAlike h0 42 [(0, .ref s_EB), (1, .int (nI S)), (2, .int (nI way)), (3, .int (nI g0)), (4, .int (nI j)), (5, .int (nI (ec_cd (ec_lb w way j)))), (6, .int (nI a)), (7, .int (nI k))] [] g Q := by
    intro h0 g0 j m
    induction m with
    | zero =>
      intro k a g hk ha G w1
      refine b_X10_mostAlike_42 (d := d + 6) _ _ _ _ _ _ _ (G.ko ko) ⟨fun _ => ?_, fun z => ?_⟩
      · rw [nI_1]
        exact w1 g G
      · exfalso
        apply z
        exact nI_lt (a := 9) (by omega) (by omega)
    | succ m ih =>
      intro k a g hk ha G w1
      have ec : ec_cnt (ec_al (ec_bi S) (ec_lb w way) j) (m + 1) k = (if ec_al (ec_bi S) (ec_lb w way) j k = true then 1 else 0) + ec_cnt (ec_al (ec_bi S) (ec_lb w way) j) m (k + 1) := rfl
      rw [ec] at w1
      refine b_X10_mostAlike_42 (d := d + 6) _ _ _ _ _ _ _ (G.ko ko) ⟨fun z => ?_, fun _ => ?_⟩
      · exfalso
        exact nI_nlt (a := 9) (b := k) (by omega) (by omega) z
      · rw [b2 k (by omega), nI_1, nI_1]
        refine ⟨fun z => ?_, fun z => ?_⟩
        · have e0 : (if ec_al (ec_bi S) (ec_lb w way) j k = true then 1 else 0 : Nat) = 0 := if_neg (by unfold ec_al; simp [z])
          rw [e0, Nat.zero_add] at w1
          exact ih (k + 1) a g (by omega) (by omega) G w1
        · refine C_br (d := d) (G.px p ec_sc_W) ok (G.ko ko) way k hw (by omega) (fun g' G' => ⟨_, rfl, G'.ko (G.ko ko), ?_⟩)
          have l1 := ec_lb_lt ok way k
          have l2 := ec_lb_lt ok way j
          have c1 : ec_cd (ec_lb w way k) < 1024 := by unfold ec_cd; omega
          have c2 : ec_cd (ec_lb w way j) < 1024 := by unfold ec_cd; omega
          rw [nI_eq (by omega) (by omega), ec_cd_inj l1 l2]
          refine ⟨fun y => ?_, fun y => ?_⟩
          · have e0 : (if ec_al (ec_bi S) (ec_lb w way) j k = true then 1 else 0 : Nat) = 0 := if_neg (by unfold ec_al; simp [y])
            rw [e0, Nat.zero_add] at w1
            exact ih (k + 1) a g' (by omega) (by omega) (G.trans G') w1
          · have e0 : (if ec_al (ec_bi S) (ec_lb w way) j k = true then 1 else 0 : Nat) = 1 := if_pos (by unfold ec_al; simp [y, z])
            rw [e0, ← Nat.add_assoc] at w1
            exact ih (k + 1) (a + 1) g' (by omega) (by omega) (G.trans G') w1
  have outer : ∀ (m j g0 : Nat) (g : eb_H), j + m = 10 → g0 ≤ 10 → ec_gf ec_sc h g → (∀ g', ec_gf ec_sc h g' → Q (some (.int (nI (ec_gm (ec_bi S) (fun j => ec_cnt (ec_al (ec_bi S) (ec_lb w way) j) (10 - j) j) m j g0)))) g') → eb_Sn (d + 7) m_X10_mostAlike h 5 [(0, .ref s_EB), (1, .int (nI S)), (2, .int (nI way)), (3, .int (nI g0)), (4, .int (nI j))] [] g Q := by
    intro m
    induction m with
    | zero =>
      intro j g0 g hj hg G w1
      refine b_X10_mostAlike_5 (d := d + 6) _ _ _ _ (G.ko ko) ⟨fun _ => w1 g G, fun z => ?_⟩
      exfalso
      apply z
      exact nI_lt (a := 9) (by omega) (by omega)
    | succ m ih =>
      intro j g0 g hj hg G w1
      rw [ec_gm_s] at w1
      refine b_X10_mostAlike_5 (d := d + 6) _ _ _ _ (G.ko ko) ⟨fun z => ?_, fun _ => ?_⟩
      · exfalso
        exact nI_nlt (a := 9) (b := j) (by omega) (by omega) z
      · rw [b1 j (by omega)]
        refine ⟨fun z => ?_, fun z => ?_⟩
        · have z : ec_bi S j = true := Decidable.not_not.mp z
          rw [if_pos z] at w1
          refine C_br (d := d) (G.px p ec_sc_W) ok (G.ko ko) way j hw (by omega) (fun g' G' => ⟨_, rfl, G'.ko (G.ko ko), ?_⟩)
          rw [nI_1]
          refine inner h g0 j m (j + 1) 1 g' (by omega) (by omega) (G.trans G') (fun g2 G2 => ?_)
          have e : 1 + ec_cnt (ec_al (ec_bi S) (ec_lb w way) j) m (j + 1) = ec_cnt (ec_al (ec_bi S) (ec_lb w way) j) (10 - j) j := by
            rw [show 10 - j = m + 1 by omega]
            show _ = (if ec_al (ec_bi S) (ec_lb w way) j j = true then 1 else 0) + ec_cnt (ec_al (ec_bi S) (ec_lb w way) j) m (j + 1)
            rw [if_pos (by unfold ec_al; simp [z])]
          have cl := ec_cnt_le (ec_al (ec_bi S) (ec_lb w way) j) (10 - j) j
          rw [e, ec_xm (by omega) (by omega)]
          exact ih (j + 1) _ g2 (by omega) (by omega) G2 w1
        · rw [if_neg z] at w1
          rw [nI_1]
          exact ih (j + 1) g0 g (by omega) hg G w1
  refine T_X10_mostAlike (d := d + 6) _ _ ko (outer 10 0 0 h (by omega) (by omega) ec_gf.rfl (fun g' G => ?_))
  have := q g' G
  unfold ec_ma at this
  rw [ec_gm_eq]
  exact this
end EBATT
