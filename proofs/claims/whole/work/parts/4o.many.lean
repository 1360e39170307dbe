section EBMANY
variable {L : Nat} {xs : Nat → Int32}
/-! ===== the reference's rows of how many ===== -/
def ed_fg (g g' : eb_H) : Prop := eb_nz g g' ∧ (∀ c, ¬ ec_mt c → eb_I g' c = eb_I g c) ∧ ∀ c, c ≠ s_m_many → c ≠ s_m_manyThen → eb_J g' c = eb_J g c
theorem ed_fg.rfl {g : eb_H} : ed_fg g g := ⟨eb_nz.rfl, fun _ _ => Eq.refl _, fun _ _ _ => Eq.refl _⟩
theorem ed_fg.trans {g g1 g2 : eb_H} (a : ed_fg g g1) (b : ed_fg g1 g2) : ed_fg g g2 := ⟨a.1.trans b.1, fun c z => (b.2.1 c z).trans (a.2.1 c z), fun c x y => (b.2.2 c x y).trans (a.2.2 c x y)⟩
theorem ed_fg.of {g g' : eb_H} (f : ec_fr ec_mt g g') : ed_fg g g' := ⟨f.1, f.2.2, fun c _ _ => by rw [f.2.1]⟩
theorem ed_fg.sJ {g g1 : eb_H} (a : ed_fg g g1) {i k : Nat} {v : Int64} (hi : i = s_m_many ∨ i = s_m_manyThen) : ed_fg g (eb_sJ g1 i k v) := ⟨a.1, a.2.1, fun c x y => by
  rw [ec_J_sJ' (fun e => by rcases hi with h | h; exact x (e.trans h); exact y (e.trans h))]
  exact a.2.2 c x y⟩
theorem ed_fg.ko {g g' : eb_H} (f : ed_fg g g') (ko : eb_KO g) : eb_KO g' := f.1.ko ko
theorem ed_fg.pm {w : eb_Wo} {g g' : eb_H} (f : ed_fg g g') (p : PM w g) : PM w g' := by
  have e0 : eb_I g' s_MO = eb_I g s_MO := f.2.1 _ (by unfold ec_mt ec_mw; decide)
  exact p.mvD (by rw [e0]) (by rw [e0]) (by rw [e0]) (fun c z => f.2.1 c (by
    unfold ec_mt ec_mw
    rcases z with rfl | rfl | rfl | rfl | rfl <;> decide)) (f.2.2 _ (by decide) (by decide))
theorem ed_fg.fm {g g' : eb_H} (f : ed_fg g g') (ko : eb_KO g) : eb_fm g g' := eb_fm.of ko f.1 (fun c nc => ⟨f.2.1 c (fun z => nc (ec_mt_M c z)), f.2.2 c (fun e => nc (by rw [e]; unfold eb_isM eb_ix s_m_many; omega)) (fun e => nc (by rw [e]; unfold eb_isM eb_ix s_m_manyThen; omega)), by rw [f.1.2.2.2.2]⟩)
def ed_TH (w : eb_Wo) (g : eb_H) : Prop := ∀ n way, n < 64 * (w.va.R * w.va.W) → way < 4 → eb_I g s_m_then (4 * n + way) = ec_oi (ec_g w.va w.now w.now.D n way)
theorem ed_cells {w : eb_Wo} {g : eb_H} (p : PM w g) (ok : eb_okW w) : (64 : Int32) * ((eb_I g s_m_all (1 : Int32).toNatClampNeg) * (eb_I g s_m_all (2 : Int32).toNatClampNeg)) = nI (64 * (w.va.R * w.va.W)) := by
  obtain ⟨r1, r2, _⟩ := ok.va.RW
  have eR : eb_I g s_m_all (1 : Int32).toNatClampNeg = nI w.va.R := p.va.2.1.trans r1
  have eW : eb_I g s_m_all (2 : Int32).toNatClampNeg = nI w.va.W := p.va.2.2.1.trans r2
  rw [eR, eW, pk_mul, show (64 : Int32) * nI (w.va.R * w.va.W) = nI (64 * (w.va.R * w.va.W)) from pk_mul 64 _]
def ed_MY (w : eb_Wo) (st : Bool) (i : Nat) (g : eb_H) : Prop := ed_TH w g ∧ (∀ q, q < 1024 → eb_J g s_m_manyThen q = lN 0) ∧ ∃ a : Nat → Nat, (∀ q, q < 1024 → eb_J g s_m_many q = lN (a q)) ∧ (∀ q, q < 64 * (w.va.R * w.va.W) → a q < 2 ^ 31) ∧ ∀ B : Nat → Nat, ec_sum (fun q => a q * B q) (64 * (w.va.R * w.va.W)) = ed_Mn (ed_nxs w.va w.now w.now.D st) B i (64 * w.now.b + w.now.e)
theorem M_bm {d : Nat} {g : eb_H} {Q : Option Value → eb_H → Prop} {w : eb_Wo} (p : PM w g) (ok : eb_okW w) (kog : eb_KO g) (st : Bool) (q : ∀ g', ed_fg g g' → ed_MY w st 0 g' → Q none g') : eb_Ct (d + 4) 237 [.ref s_MO] g Q := by
  obtain ⟨r1, r2, r3, r4, r5, r6, r7, r8, r9, r10, _⟩ := ok.va.RW
  obtain ⟨n1, n2, n3, n4, n5, n6, n7⟩ := ok.now.N ok.va
  have e50 : eb_I g s_m_all (50 : Int32).toNatClampNeg = nI w.now.D := p.now.2.2.2.2.1.trans n3
  refine T_X11_beginsMany (d := d + 3) kog ?_
  rw [e50]
  refine M_then (d := d) p ok kog w.now.D n6 (fun g1 F1 th => ⟨rfl, F1.ko kog, ?_⟩)
  have key : ∀ (m k : Nat) (g' : eb_H), k + m = 1024 → ed_fg g g' → eb_I g' s_m_then = eb_I g1 s_m_then → (∀ q, q < k → eb_J g' s_m_many q = lN (if q = 64 * w.now.b + w.now.e then 1 else 0) ∧ eb_J g' s_m_manyThen q = lN 0) → eb_Sn (d + 4) m_X11_beginsMany g 13 [(0, .ref s_MO), (1, .int (nI k))] [] g' Q := by
    intro m
    induction m with
    | zero =>
      intro k g' hk F e2 a
      have hk : k = 1024 := by omega
      subst hk
      refine b_X11_beginsMany_13 (d := d + 3) _ (F.ko kog) ⟨fun _ => q g' F ⟨fun n way hn hw => by rw [e2]; exact th n way hn hw, fun q hq => (a q hq).2, fun q => if q = 64 * w.now.b + w.now.e then 1 else 0, fun q hq => (a q hq).1, fun q _ => ?_, fun B => ?_⟩, fun z => absurd (by decide) z⟩
      · show (if q = 64 * w.now.b + w.now.e then 1 else 0) < 2 ^ 31
        split <;> omega
      · rw [ed_sum_dl, if_pos (by omega)]
        rfl
    | succ m ih =>
      intro k g' hk F e2 a
      have pg := F.pm p
      refine b_X11_beginsMany_13 (d := d + 3) _ (F.ko kog) ⟨fun z => absurd z (nI_ge (a := k) (b := 1024) (by omega) (by omega)), fun _ => ⟨vp_in_nI (by omega) (by omega), vp_in_nI (by omega) (by omega), ?_⟩⟩
      rw [ec_stand pg.now ok.va ok.now, eb_cln (n := k) (by omega), nI_1]
      have ev : (if nI k = nI (64 * w.now.b + w.now.e) then 1 else 0 : Int64) = lN (if k = 64 * w.now.b + w.now.e then 1 else 0) := by
        by_cases e : k = 64 * w.now.b + w.now.e
        · rw [if_pos (by rw [e]), if_pos e]; rfl
        · rw [if_neg (by rw [nI_eq (by omega) (by omega)]; exact e), if_neg e]; rfl
      rw [ev]
      refine ih (k + 1) _ (by omega) ((F.sJ (Or.inl rfl)).sJ (Or.inr rfl)) e2 (fun q hq => ⟨?_, ?_⟩)
      · rw [ec_J_sJ' (by decide), eb_J_sJ]
        by_cases e : q = k
        · rw [if_pos e, e]
        · rw [if_neg e]; exact (a q (by omega)).1
      · rw [eb_J_sJ]
        by_cases e : q = k
        · rw [if_pos e]; rfl
        · rw [if_neg e, ec_J_sJ' (by decide)]; exact (a q (by omega)).2
  exact key 1024 0 g1 (by omega) (ed_fg.of F1) rfl (fun q hq => absurd hq (by omega))
theorem ed_ss (f : Nat → Nat) (n : Nat) : ec_sum f (n + 1) = ec_sum f n + f n := rfl
theorem ed_Ms (nx : Nat → Nat → Option Nat) (B : Nat → Nat) (q y : Nat) : ed_M nx B q (y + 1) = ed_M nx B q y + (match nx q y with
    | some t => B t
    | none => 0) := rfl
theorem M_gm {d : Nat} {g : eb_H} {Q : Option Value → eb_H → Prop} {w : eb_Wo} (p : PM w g) (ok : eb_okW w) (kog : eb_KO g) (st : Bool) (x : Int32) (hx : x = 0 ↔ ¬ st = true) (i : Nat) (hi : i < 12) (my : ed_MY w st i g) (q : ∀ g', ed_fg g g' → ed_MY w st (i + 1) g' → Q none g') : eb_Ct (d + 2) 238 [.ref s_MO, .int x] g Q := by
  obtain ⟨r1, r2, r3, r4, r5, r6, r7, r8, r9, r10, _⟩ := ok.va.RW
  obtain ⟨th, z0, a, h1, h2, h3⟩ := my
  -- the copy
  have copy : ∀ (b : Nat → Nat), (∀ B : Nat → Nat, ec_sum (fun q => b q * B q) (64 * (w.va.R * w.va.W)) = ec_sum (fun q => a q * ed_M (ed_nxs w.va w.now w.now.D st) B q 4) (64 * (w.va.R * w.va.W))) → ∀ (m k : Nat) (g2 : eb_H), k + m = 1024 → ed_fg g g2 → eb_I g2 s_m_then = eb_I g s_m_then → (∀ q, q < k → eb_J g2 s_m_many q = lN (b q) ∧ eb_J g2 s_m_manyThen q = lN 0) → (∀ q, k ≤ q → q < 1024 → eb_J g2 s_m_manyThen q = lN (b q)) → eb_Sn (d + 2) m_X11_goesMany g 98 [(0, .ref s_MO), (2, .int (nI k))] [] g2 Q := by
    intro b hb m
    induction m with
    | zero =>
      intro k g2 hk F e2 c1 c2
      have hk : k = 1024 := by omega
      subst hk
      have h4 : ∀ B : Nat → Nat, ec_sum (fun q => b q * B q) (64 * (w.va.R * w.va.W)) = ed_Mn (ed_nxs w.va w.now w.now.D st) B (i + 1) (64 * w.now.b + w.now.e) := fun B => by
        rw [hb B, h3, ed_Mn_c]
      refine b_X11_goesMany_98 (d := d) _ (F.ko kog) ⟨fun _ => q g2 F ⟨fun n way hn hw => by rw [e2]; exact th n way hn hw, fun q hq => (c1 q hq).2, b, fun q hq => (c1 q hq).1, fun q hq => ?_, h4⟩, fun z => absurd (by decide) z⟩
      have s1 : ec_sum (fun q => b q * 1) (64 * (w.va.R * w.va.W)) = ed_Mn (ed_nxs w.va w.now w.now.D st) (fun _ => 1) (i + 1) (64 * w.now.b + w.now.e) := h4 (fun _ => 1)
      have s3 : b q * 1 ≤ ec_sum (fun q => b q * 1) (64 * (w.va.R * w.va.W)) := ed_sum_ge (f := fun q => b q * 1) (q := q) _ hq
      rw [s1, Nat.mul_one] at s3
      have s2 := ed_Mn_le (nx := ed_nxs w.va w.now w.now.D st) (B := fun _ => 1) (c := 1) (fun _ => Nat.le_refl _) (i + 1) (64 * w.now.b + w.now.e)
      have s4 : 4 ^ (i + 1) ≤ 4 ^ 12 := Nat.pow_le_pow_right (by decide) hi
      rw [Nat.mul_one] at s2
      exact Nat.lt_of_le_of_lt (Nat.le_trans s3 (Nat.le_trans s2 s4)) (by decide)
    | succ m ih =>
      intro k g2 hk F e2 c1 c2
      refine b_X11_goesMany_98 (d := d) _ (F.ko kog) ⟨fun z => absurd z (nI_ge (a := k) (b := 1024) (by omega) (by omega)), fun _ => ⟨vp_in_nI (by omega) (by omega), vp_in_nI (by omega) (by omega), vp_in_nI (by omega) (by omega), ?_⟩⟩
      rw [eb_cln (n := k) (by omega), nI_1, c2 k (Nat.le_refl _) (by omega)]
      refine ih (k + 1) _ (by omega) ((F.sJ (Or.inl rfl)).sJ (Or.inr rfl)) e2 (fun q hq => ⟨?_, ?_⟩) (fun q hq hq2 => ?_)
      · rw [ec_J_sJ' (by decide), eb_J_sJ]
        by_cases e : q = k
        · rw [if_pos e, e]
        · rw [if_neg e]; exact (c1 q (by omega)).1
      · rw [eb_J_sJ]
        by_cases e : q = k
        · rw [if_pos e]; rfl
        · rw [if_neg e, ec_J_sJ' (by decide)]; exact (c1 q (by omega)).2
      · rw [eb_J_sJ, if_neg (by omega), ec_J_sJ' (by decide)]
        exact c2 q (by omega) hq2
  have inner : ∀ (n : Nat), n < 64 * (w.va.R * w.va.W) → (∀ (g2 : eb_H) (b : Nat → Nat), ed_fg g g2 → eb_I g2 s_m_then = eb_I g s_m_then → (∀ q, q < 1024 → eb_J g2 s_m_many q = lN (a q)) → (∀ q, q < 1024 → eb_J g2 s_m_manyThen q = lN (b q)) → (∀ B : Nat → Nat, ec_sum (fun q => b q * B q) (64 * (w.va.R * w.va.W)) = ec_sum (fun q => a q * ed_M (ed_nxs w.va w.now w.now.D st) B q 4) (n + 1)) → eb_Sn (d + 2) m_X11_goesMany g 2 [(0, .ref s_MO), (1, .int x), (2, .int (nI (n + 1)))] [] g2 Q) → ∀ (m y : Nat) (g2 : eb_H) (b : Nat → Nat), y + m = 4 → ed_fg g g2 → eb_I g2 s_m_then = eb_I g s_m_then → (∀ q, q < 1024 → eb_J g2 s_m_many q = lN (a q)) → (∀ q, q < 1024 → eb_J g2 s_m_manyThen q = lN (b q)) → (∀ B : Nat → Nat, ec_sum (fun q => b q * B q) (64 * (w.va.R * w.va.W)) = ec_sum (fun q => a q * ed_M (ed_nxs w.va w.now w.now.D st) B q 4) n + a n * ed_M (ed_nxs w.va w.now w.now.D st) B n y) → eb_Sn (d + 2) m_X11_goesMany g 12 [(0, .ref s_MO), (1, .int x), (2, .int (nI n)), (3, .int (nI y))] [] g2 Q := by
    intro n hn nxt m
    induction m with
    | zero =>
      intro y g2 b hy F e2 ma mb hb
      have hy : y = 4 := by omega
      subst hy
      refine b_X11_goesMany_12 (d := d) _ _ _ (F.ko kog) ⟨fun _ => ?_, fun z => absurd (by decide) z⟩
      rw [nI_1]
      exact nxt g2 b F e2 ma mb (fun B => by rw [hb B, ed_ss])
    | succ m ih =>
      intro y g2 b hy F e2 ma mb hb
      have e4 : (4 : Int32) * nI n + nI y = nI (4 * n + y) := by
        rw [show (4 : Int32) * nI n = nI (4 * n) from pk_mul 4 n, nI_add]
      have et : eb_I g2 s_m_then (4 * n + y) = ec_oi (ec_g w.va w.now w.now.D n y) := by rw [e2]; exact th n y hn (by omega)
      have le0 : lN (a n) ≤ 0 ↔ a n = 0 := by
        have := lN_le (a := a n) (b := 0) (h2 n hn) (by omega)
        have t : lN (a n) ≤ 0 ↔ a n ≤ 0 := this
        rw [t]
        omega
      have upd : ∀ t, t < 64 * (w.va.R * w.va.W) → ed_nxs w.va w.now w.now.D st n y = some t → eb_Sn (d + 2) m_X11_goesMany g 12 [(0, .ref s_MO), (1, .int x), (2, .int (nI n)), (3, .int (nI (y + 1)))] [] (eb_sJ g2 s_m_manyThen t (lN (b t) + lN (a n))) Q := by
        intro t ht hnx
        refine ih (y + 1) _ (ec_up b t (b t + a n)) (by omega) (F.sJ (Or.inr rfl)) e2 (fun q hq => ?_) (fun q hq => ?_) (fun B => ?_)
        · rw [ec_J_sJ' (by decide)]; exact ma q hq
        · rw [eb_J_sJ]
          by_cases e : q = t
          · rw [if_pos e, e, ec_up_s, lN_add]
          · rw [if_neg e, ec_up_n e]; exact mb q hq
        · rw [ed_sum_up _ ht, hb B, ed_Ms, hnx, Nat.mul_add, Nat.add_assoc]
      have skip : ed_nxs w.va w.now w.now.D st n y = none → eb_Sn (d + 2) m_X11_goesMany g 12 [(0, .ref s_MO), (1, .int x), (2, .int (nI n)), (3, .int (nI (y + 1)))] [] g2 Q := by
        intro hnx
        refine ih (y + 1) g2 b (by omega) F e2 ma mb (fun B => ?_)
        rw [hb B, ed_Ms, hnx, Nat.add_zero]
      refine b_X11_goesMany_12 (d := d) _ _ _ (F.ko kog) ⟨fun z => absurd z (nI_ge (a := y) (b := 4) (by omega) (by omega)), fun _ => ⟨vp_in_nI (by omega) (by omega), ?_⟩⟩
      rw [eb_cln (n := n) (by omega), ma n (by omega), le0, e4, eb_cln (n := 4 * n + y) (by omega), et, nI_1, nI_1]
      refine ⟨fun z => nxt g2 b F e2 ma mb (fun B => ?_), fun _ => ⟨vp_in_nI (by omega) (by omega), ?_⟩⟩
      · rw [hb B, ed_ss, z, Nat.zero_mul, Nat.zero_mul]
      · cases hg : ec_g w.va w.now w.now.D n y with
        | none =>
          refine ⟨fun _ => ⟨fun z => skip ?_, fun z => ⟨vp_in_nI (by omega) (by omega), vp_in_nI (by omega) (by omega), vp_in_nI (by omega) (by omega), ?_⟩⟩, fun u => absurd rfl u⟩
          · unfold ed_nxs
            rw [hg]
            dsimp only
            rw [if_neg (hx.mp z)]
          · rw [mb n (by omega)]
            refine upd n hn ?_
            unfold ed_nxs
            rw [hg]
            dsimp only
            rw [if_pos (Decidable.not_not.mp (fun u => z (hx.mpr u)))]
        | some t =>
          have ht := ec_g_lt ok.va ok.now hn hg
          have yn : ec_oi (some t) = nI t := rfl
          rw [yn, eb_cln (n := t) (by omega), mb t (by omega)]
          refine ⟨fun u => absurd u (ec_m1 (by omega)), fun _ => ⟨vp_in_nI (by omega) (by omega), vp_in_nI (by omega) (by omega), vp_in_nI (by omega) (by omega), upd t ht ?_⟩⟩
          unfold ed_nxs
          rw [hg]
  have outer : ∀ (m n : Nat) (g2 : eb_H) (b : Nat → Nat), n + m = 64 * (w.va.R * w.va.W) → ed_fg g g2 → eb_I g2 s_m_then = eb_I g s_m_then → (∀ q, q < 1024 → eb_J g2 s_m_many q = lN (a q)) → (∀ q, q < 1024 → eb_J g2 s_m_manyThen q = lN (b q)) → (∀ B : Nat → Nat, ec_sum (fun q => b q * B q) (64 * (w.va.R * w.va.W)) = ec_sum (fun q => a q * ed_M (ed_nxs w.va w.now w.now.D st) B q 4) n) → eb_Sn (d + 2) m_X11_goesMany g 2 [(0, .ref s_MO), (1, .int x), (2, .int (nI n))] [] g2 Q := by
    intro m
    induction m with
    | zero =>
      intro n g2 b hn F e2 ma mb hb
      have hn : n = 64 * (w.va.R * w.va.W) := by omega
      subst hn
      refine b_X11_goesMany_2 (d := d) _ _ (F.ko kog) ?_
      rw [ed_cells (F.pm p) ok]
      exact ⟨fun _ => copy b hb 1024 0 g2 (by omega) F e2 (fun q hq => absurd hq (by omega)) (fun q _ hq => mb q hq), fun z => absurd (nI_le (Nat.le_refl _) (by omega)) z⟩
    | succ m ih =>
      intro n g2 b hn F e2 ma mb hb
      refine b_X11_goesMany_2 (d := d) _ _ (F.ko kog) ?_
      rw [ed_cells (F.pm p) ok]
      refine ⟨fun z => absurd z (nI_ge (by omega) (by omega)), fun _ => ?_⟩
      refine inner n (by omega) (fun g3 b3 F3 e3 ma3 mb3 hb3 => ih (n + 1) g3 b3 (by omega) F3 e3 ma3 mb3 hb3) 4 0 g2 b (by omega) F e2 ma mb (fun B => ?_)
      have : ed_M (ed_nxs w.va w.now w.now.D st) B n 0 = 0 := rfl
      rw [hb B, this, Nat.mul_zero, Nat.add_zero]
  refine T_X11_goesMany (d := d) _ kog (outer _ 0 g (fun _ => 0) (Nat.zero_add _) ed_fg.rfl rfl h1 z0 (fun B => ?_))
  have e0 : ec_sum (fun q => (fun _ => 0) q * B q) (64 * (w.va.R * w.va.W)) = 0 := ed_sum_0 _ (fun k _ => Nat.zero_mul (B k))
  rw [e0]
  rfl
/-- so many steps at random -/
theorem M_ly {d : Nat} {g : eb_H} {Q : Option Value → eb_H → Prop} {w : eb_Wo} (p : PM w g) (ok : eb_okW w) (kog : eb_KO g) (n : Nat) (hn : n ≤ 12) (q : ∀ g', ed_fg g g' → ed_MY w true n g' → Q none g') : eb_Ct (d + 5) 270 [.ref s_MO, .int (nI n)] g Q := by
  refine T_X11_laysLikely (d := d + 4) _ kog (M_bm (d := d) p ok kog true (fun g1 F1 my1 => ⟨rfl, F1.ko kog, ?_⟩))
  have key : ∀ (m k : Nat) (g2 : eb_H), k + m = n → ed_fg g g2 → ed_MY w true k g2 → eb_Sn (d + 5) m_X11_laysLikely g 6 [(0, .ref s_MO), (1, .int (nI n)), (2, .int (nI k))] [] g2 Q := by
    intro m
    induction m with
    | zero =>
      intro k g2 hk F my
      have hk : k = n := by omega
      subst hk
      exact b_X11_laysLikely_6 (d := d + 4) _ _ (F.ko kog) ⟨fun _ => q g2 F my, fun z => absurd (nI_le (Nat.le_refl _) (by omega)) z⟩
    | succ m ih =>
      intro k g2 hk F my
      refine b_X11_laysLikely_6 (d := d + 4) _ _ (F.ko kog) ⟨fun z => absurd z (nI_ge (by omega) (by omega)), fun _ => ?_⟩
      rw [nI_1]
      exact M_gm (d := d + 2) (F.pm p) ok (F.ko kog) true 1 (by decide) k (by omega) my (fun g3 F3 my3 => ⟨rfl, F3.ko (F.ko kog), ih (k + 1) g3 (by omega) (F.trans F3) my3⟩)
  exact key n 0 g1 (by omega) F1 my1
end EBMANY
