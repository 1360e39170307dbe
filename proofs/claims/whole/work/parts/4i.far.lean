section EBFAR
variable {L : Nat} {xs : Nat → Int32}
def ec_sum (f : Nat → Nat) : Nat → Nat
  | 0 => 0
  | n + 1 => ec_sum f n + f n
theorem ec_sum_cg {f f' : Nat → Nat} : ∀ n, (∀ k, k < n → f k = f' k) → ec_sum f n = ec_sum f' n
  | 0, _ => rfl
  | n + 1, h => by
    show ec_sum f n + f n = ec_sum f' n + f' n
    rw [ec_sum_cg n (fun k hk => h k (by omega)), h n (by omega)]
theorem ec_sum_up {f : Nat → Nat} {j v : Nat} (hv : v < f j) : ∀ n, j < n → ec_sum (ec_up f j v) n < ec_sum f n
  | 0, h => by omega
  | n + 1, h => by
    show ec_sum (ec_up f j v) n + ec_up f j v n < ec_sum f n + f n
    by_cases e : j = n
    · subst e
      rw [ec_up_s, ec_sum_cg j (f := ec_up f j v) (f' := f) (fun k hk => ec_up_n (by omega))]
      omega
    · have := ec_sum_up hv n (by omega)
      rw [ec_up_n (fun x => e x.symm)]
      omega
def ec_mf (c : Nat) : Prop := ec_mt c ∨ c = s_m_far
theorem ec_mf_M (c : Nat) (z : ec_mf c) : eb_isM c := by
  rcases z with z | rfl
  · exact ec_mt_M c z
  · unfold eb_isM eb_ix s_m_far; omega
theorem PM.mf {w : eb_Wo} {h h' : eb_H} (p : PM w h) (f : ec_fr ec_mf h h') : PM w h' := p.fr f (by unfold ec_mf ec_mt ec_mw; decide) (fun c z => by
  unfold ec_mf ec_mt ec_mw
  rcases z with rfl | rfl | rfl | rfl | rfl <;> decide)
/-- so far: what stands in the row can be flown -/
def ec_FI (g : Nat → Nat → Option Nat) (G : Nat → Prop) (N : Nat) (f : Nat → Nat) : Prop := ∀ n, n < N → f n ≤ 268435456 ∧ (f n < 268435456 → ec_wk g G (f n) n) ∧ (G n → f n = 0)
/-- done: it is the fewest steps -/
def ec_FD (g : Nat → Nat → Option Nat) (G : Nat → Prop) (N : Nat) (f : Nat → Nat) : Prop := ec_FI g G N f ∧ ∀ k n, n < N → ec_wk g G k n → f n ≤ k
theorem ec_FI.done {g : Nat → Nat → Option Nat} {G : Nat → Prop} {N : Nat} {f : Nat → Nat} (i : ec_FI g G N f) (gl : ∀ n y m, n < N → g n y = some m → m < N) (cl : ∀ n y k, n < N → y < 4 → g n y = some k → f k < 268435456 → f n ≤ f k + 1) : ec_FD g G N f := by
  refine ⟨i, fun k => ?_⟩
  induction k with
  | zero =>
    intro n hn w
    rw [(i n hn).2.2 w]
    exact Nat.le_refl _
  | succ k ih =>
    intro n hn w
    obtain ⟨y, m, hy, e, c⟩ := w
    have hm := gl n y m hn e
    have := ih m hm c
    have b1 := (i n hn).1
    by_cases z : f m < 268435456
    · have := cl n y m hn hy e z
      omega
    · omega
theorem ec_FD.tr {g : Nat → Nat → Option Nat} {s0 N : Nat} {G : Nat → Prop} {f : Nat → Nat} (i : ec_FD g G N f) {D : Nat} {st wy : Nat → Nat} (t : ec_tr g s0 N G D st wy) (hN : N ≤ 1024) (j : Nat) (hj : j ≤ D) : f (st j) = j := by
  have sn := t.2.1 j hj
  have a := i.2 j (st j) sn (t.wk j hj)
  have dN := t.1.1
  have b := (i.1 (st j) sn).2.1 (by omega)
  refine Classical.byContradiction fun z => ?_
  exact t.2.2.2.1 j (f (st j)) hj (by omega) b
theorem M_far {d : Nat} {g : eb_H} {Q : Option Value → eb_H → Prop} {w : eb_Wo} (p : PM w g) (ok : eb_okW w) (kog : eb_KO g) (c a b : Nat) (hc : c < 16) (ha : a < 64) (hb : b < 64) (q : ∀ g' f, ec_fr ec_mf g g' → (∀ n way, n < 64 * (w.va.R * w.va.W) → way < 4 → eb_I g' s_m_then (4 * n + way) = ec_oi (ec_g w.va w.now w.now.D n way)) → (∀ n, n < 64 * (w.va.R * w.va.W) → eb_I g' s_m_far n = nI (f n)) → ec_FD (ec_g w.va w.now w.now.D) (ec_goal c a b) (64 * (w.va.R * w.va.W)) f → Q (some (.int (nI (f (64 * w.now.b + w.now.e))))) g') : eb_Ct (d + 4) 232 [.ref s_MO, .int (nI c), .int (nI a), .int (nI b)] g Q := by
  obtain ⟨r1, r2, r3, r4, r5, r6, r7, r8, r9, r10, _⟩ := ok.va.RW
  obtain ⟨n1, n2, n3, n4, n5, n6, n7⟩ := ok.now.N ok.va
  have cells : ∀ g', ec_fr ec_mf g g' → (64 : Int32) * ((eb_I g' s_m_all (1 : Int32).toNatClampNeg) * (eb_I g' s_m_all (2 : Int32).toNatClampNeg)) = nI (64 * (w.va.R * w.va.W)) := fun g' F => by
    have pg := p.mf F
    have eR : eb_I g' s_m_all (1 : Int32).toNatClampNeg = nI w.va.R := pg.va.2.1.trans r1
    have eW : eb_I g' s_m_all (2 : Int32).toNatClampNeg = nI w.va.W := pg.va.2.2.1.trans r2
    rw [eR, eW, pk_mul, show (64 : Int32) * nI (w.va.R * w.va.W) = nI (64 * (w.va.R * w.va.W)) from pk_mul 64 _]
  have e50 : eb_I g s_m_all (50 : Int32).toNatClampNeg = nI w.now.D := p.now.2.2.2.2.1.trans n3
  refine T_X11_laysFar (d := d + 2) _ _ _ kog ?_
  rw [e50]
  refine M_then (d := d) p ok kog w.now.D n6 (fun g1 F1 th => ⟨rfl, F1.ko kog, ?_⟩)
  have F1' : ec_fr ec_mf g g1 := F1.weak (fun c z => Or.inl z)
  -- the great loop
  have pass : ∀ (U : Nat), (∀ g' f, ec_fr ec_mf g g' → eb_I g' s_m_then = eb_I g1 s_m_then → (∀ n, n < 64 * (w.va.R * w.va.W) → eb_I g' s_m_far n = nI (f n)) → ec_FI (ec_g w.va w.now w.now.D) (ec_goal c a b) (64 * (w.va.R * w.va.W)) f → ec_sum f (64 * (w.va.R * w.va.W)) < U → eb_Sn (d + 4) m_X11_laysFar g 57 [(0, .ref s_MO), (4, .int 1)] [] g' Q) := by
    intro U
    induction U with
    | zero => intro g' f _ _ _ _ h; omega
    | succ U ih =>
      intro g' f F eth ef fi hU
      have fin : ∀ g2 f2 (x2 : Int32), ec_fr ec_mf g g2 → eb_I g2 s_m_then = eb_I g1 s_m_then → (∀ n, n < 64 * (w.va.R * w.va.W) → eb_I g2 s_m_far n = nI (f2 n)) → ec_FI (ec_g w.va w.now w.now.D) (ec_goal c a b) (64 * (w.va.R * w.va.W)) f2 → ((x2 = 0 ∧ ∀ n y k, n < 64 * (w.va.R * w.va.W) → y < 4 → ec_g w.va w.now w.now.D n y = some k → f2 k < 268435456 → f2 n ≤ f2 k + 1) ∨ (x2 = 1 ∧ ec_sum f2 (64 * (w.va.R * w.va.W)) < ec_sum f (64 * (w.va.R * w.va.W)))) → eb_Sn (d + 4) m_X11_laysFar g 57 [(0, .ref s_MO), (4, .int x2)] [] g2 Q := by
        intro g2 f2 x2 F2 e2 ef2 fi2 alt
        rcases alt with ⟨rfl, cl⟩ | ⟨rfl, lt⟩
        · have p2 := p.mf F2
          refine b_X11_laysFar_57 (d := d + 2) _ (F2.ko kog) ⟨fun _ => ?_, fun z => absurd rfl z⟩
          rw [ec_stand p2.now ok.va ok.now, eb_cln (by omega)]
          refine ⟨vp_in_nI (by omega) (by omega), ?_⟩
          rw [ef2 _ (by omega)]
          exact q g2 f2 F2 (fun n way hn hw => by rw [e2]; exact th n way hn hw) ef2 (fi2.done (fun n y m hn e => ec_g_lt ok.va ok.now hn e) cl)
        · exact ih g2 f2 F2 e2 ef2 fi2 (by omega)
      have inner : ∀ (n : Nat), n < 64 * (w.va.R * w.va.W) → (∀ g2 f2 (x2 : Int32), ec_fr ec_mf g g2 → eb_I g2 s_m_then = eb_I g1 s_m_then → (∀ n, n < 64 * (w.va.R * w.va.W) → eb_I g2 s_m_far n = nI (f2 n)) → ec_FI (ec_g w.va w.now w.now.D) (ec_goal c a b) (64 * (w.va.R * w.va.W)) f2 → ((x2 = 0 ∧ ∀ n' y k, n' < n + 1 → y < 4 → ec_g w.va w.now w.now.D n' y = some k → f2 k < 268435456 → f2 n' ≤ f2 k + 1) ∨ (x2 = 1 ∧ ec_sum f2 (64 * (w.va.R * w.va.W)) < ec_sum f (64 * (w.va.R * w.va.W)))) → ec_sum f2 (64 * (w.va.R * w.va.W)) ≤ ec_sum f (64 * (w.va.R * w.va.W)) → eb_Sn (d + 4) m_X11_laysFar g 68 [(0, .ref s_MO), (4, .int x2), (5, .int (nI (n + 1)))] [] g2 Q) → ∀ (m y : Nat) (g2 : eb_H) (f2 : Nat → Nat) (x2 : Int32), y + m = 4 → ec_fr ec_mf g g2 → eb_I g2 s_m_then = eb_I g1 s_m_then → (∀ n, n < 64 * (w.va.R * w.va.W) → eb_I g2 s_m_far n = nI (f2 n)) → ec_FI (ec_g w.va w.now w.now.D) (ec_goal c a b) (64 * (w.va.R * w.va.W)) f2 → ((x2 = 0 ∧ ∀ n' y' k, 4 * n' + y' < 4 * n + y → y' < 4 → ec_g w.va w.now w.now.D n' y' = some k → f2 k < 268435456 → f2 n' ≤ f2 k + 1) ∨ (x2 = 1 ∧ ec_sum f2 (64 * (w.va.R * w.va.W)) < ec_sum f (64 * (w.va.R * w.va.W)))) → ec_sum f2 (64 * (w.va.R * w.va.W)) ≤ ec_sum f (64 * (w.va.R * w.va.W)) → eb_Sn (d + 4) m_X11_laysFar g 80 [(0, .ref s_MO), (4, .int x2), (5, .int (nI n)), (6, .int (nI y))] [] g2 Q := by
        intro n hn nxt m
        induction m with
        | zero =>
          intro y g2 f2 x2 hy F2 e2 ef2 fi2 alt cle
          refine b_X11_laysFar_80 (d := d + 2) _ _ _ (F2.ko kog) ⟨fun _ => ?_, fun z => absurd (nI_le (a := 4) (by omega) (by omega)) z⟩
          rw [nI_1]
          refine nxt g2 f2 x2 F2 e2 ef2 fi2 ?_ cle
          rcases alt with ⟨a, b⟩ | a
          · exact Or.inl ⟨a, fun n' y' k h1 h2 => b n' y' k (by omega) h2⟩
          · exact Or.inr a
        | succ m ihm =>
          intro y g2 f2 x2 hy F2 e2 ef2 fi2 alt cle
          have b2 := fi2 n hn
          have e4 : (4 : Int32) * nI n + nI y = nI (4 * n + y) := by
            rw [show (4 : Int32) * nI n = nI (4 * n) from pk_mul 4 n, nI_add]
          have et : eb_I g2 s_m_then (4 * n + y) = ec_oi (ec_g w.va w.now w.now.D n y) := by rw [e2]; exact th n y hn (by omega)
          -- nothing changed by this direction
          have same : (∀ k, ec_g w.va w.now w.now.D n y = some k → f2 k < 268435456 → f2 n ≤ f2 k + 1) → eb_Sn (d + 4) m_X11_laysFar g 80 [(0, .ref s_MO), (4, .int x2), (5, .int (nI n)), (6, .int (nI (y + 1)))] [] g2 Q := fun hs => by
            refine ihm (y + 1) g2 f2 x2 (by omega) F2 e2 ef2 fi2 ?_ cle
            rcases alt with ⟨a, b⟩ | a
            · refine Or.inl ⟨a, fun n' y' k h1 h2 h3 h4 => ?_⟩
              by_cases e : 4 * n' + y' < 4 * n + y
              · exact b n' y' k e h2 h3 h4
              · have h5 : n' = n := by omega
                have h6 : y' = y := by omega
                rw [h5, h6] at h3
                rw [h5]
                exact hs k h3 h4
            · exact Or.inr a
          refine b_X11_laysFar_80 (d := d + 2) _ _ _ (F2.ko kog) ⟨fun z => absurd z (nI_ge (a := y) (b := 4) (by omega) (by omega)), fun _ => ⟨vp_in_nI (by omega) (by omega), ?_⟩⟩
          rw [e4, eb_cln (n := n) (by omega), eb_cln (n := 4 * n + y) (by omega), et, ef2 n hn, nI_1, nI_1]
          refine ⟨fun z => ?_, fun z => ⟨vp_in_nI (by omega) (by omega), ?_⟩⟩
          · have f0 : f2 n = 0 := by
              have z : nI (f2 n) ≤ nI 0 := z
              rw [nI_leI (by omega) (by omega)] at z
              omega
            refine nxt g2 f2 x2 F2 e2 ef2 fi2 ?_ cle
            rcases alt with ⟨a, b⟩ | a
            · refine Or.inl ⟨a, fun n' y' k h1 h2 h3 h4 => ?_⟩
              by_cases e : n' = n
              · rw [e, f0]; omega
              · exact b n' y' k (by omega) h2 h3 h4
            · exact Or.inr a
          · have f0 : 0 < f2 n := by
              refine Nat.pos_of_ne_zero fun u => z ?_
              rw [u]
              decide
            have big : ¬ ((268435456 : Int32) < nI (f2 n)) := nI_nlt (a := 268435456) b2.1 (by omega)
            cases hg : ec_g w.va w.now w.now.D n y with
            | none =>
              refine ⟨fun _ => ⟨vp_in_nI (by omega) (by omega), fun u => absurd u big, fun _ => same (fun k e => by rw [hg] at e; cases e)⟩, fun u => absurd rfl u⟩
            | some k0 =>
              have hk0 := ec_g_lt ok.va ok.now hn hg
              have bk := fi2 k0 hk0
              have yn : ec_oi (some k0) = nI k0 := rfl
              rw [yn]
              refine ⟨fun u => absurd u (ec_m1 (by omega)), fun _ => ⟨vp_in_nI (by omega) (by omega), ?_⟩⟩
              rw [eb_cln (n := k0) (by omega), ef2 k0 hk0, nI_1]
              have e28 : nI (f2 k0) = (268435456 : Int32) ↔ f2 k0 = 268435456 := nI_eq (b := 268435456) (by omega) (by omega)
              rw [e28]
              refine ⟨fun u => ⟨vp_in_nI (by omega) (by omega), vp_in_nI (by omega) (by omega), ?_⟩, fun u => ⟨vp_in_nI (by omega) (by omega), fun x => absurd x big, fun _ => same (fun k e fk => ?_)⟩⟩
              · rw [nI_ltI (by omega) (by omega)]
                refine ⟨fun x => ⟨vp_in_nI (by omega) (by omega), vp_in_nI (by omega) (by omega), vp_in_nI (by omega) (by omega), vp_in_nI (by omega) (by omega), ?_⟩, fun x => same (fun k e fk => ?_)⟩
                · have lt := ec_sum_up (f := f2) (j := n) (v := f2 k0 + 1) x (64 * (w.va.R * w.va.W)) hn
                  refine ihm (y + 1) _ (ec_up f2 n (f2 k0 + 1)) 1 (by omega) (F2.sI (Or.inr rfl)) (by rw [eb_I_sIn (by decide)]; exact e2) (fun n' hn' => ?_) (fun n' hn' => ?_) (Or.inr ⟨rfl, by omega⟩) (by omega)
                  · rw [eb_I_sI]
                    by_cases e : n' = n
                    · rw [if_pos e, e, ec_up_s]
                    · rw [if_neg e, ec_up_n e]; exact ef2 n' hn'
                  · by_cases e : n' = n
                    · rw [e, ec_up_s]
                      refine ⟨by omega, fun _ => ⟨y, k0, by omega, hg, bk.2.1 (by omega)⟩, fun gn => ?_⟩
                      have := b2.2.2 gn
                      omega
                    · rw [ec_up_n e]; exact fi2 n' hn'
                · rw [hg] at e
                  cases e
                  omega
              · rw [hg] at e
                cases e
                omega
      have outer : ∀ (m n : Nat) (g2 : eb_H) (f2 : Nat → Nat) (x2 : Int32), n + m = 64 * (w.va.R * w.va.W) → ec_fr ec_mf g g2 → eb_I g2 s_m_then = eb_I g1 s_m_then → (∀ n, n < 64 * (w.va.R * w.va.W) → eb_I g2 s_m_far n = nI (f2 n)) → ec_FI (ec_g w.va w.now w.now.D) (ec_goal c a b) (64 * (w.va.R * w.va.W)) f2 → ((x2 = 0 ∧ ∀ n' y k, n' < n → y < 4 → ec_g w.va w.now w.now.D n' y = some k → f2 k < 268435456 → f2 n' ≤ f2 k + 1) ∨ (x2 = 1 ∧ ec_sum f2 (64 * (w.va.R * w.va.W)) < ec_sum f (64 * (w.va.R * w.va.W)))) → ec_sum f2 (64 * (w.va.R * w.va.W)) ≤ ec_sum f (64 * (w.va.R * w.va.W)) → eb_Sn (d + 4) m_X11_laysFar g 68 [(0, .ref s_MO), (4, .int x2), (5, .int (nI n))] [] g2 Q := by
        intro m
        induction m with
        | zero =>
          intro n g2 f2 x2 hn F2 e2 ef2 fi2 alt cle
          refine b_X11_laysFar_68 (d := d + 2) _ _ (F2.ko kog) ?_
          rw [cells g2 F2]
          refine ⟨fun _ => fin g2 f2 x2 F2 e2 ef2 fi2 ?_, fun z => absurd (nI_le (by omega) (by omega)) z⟩
          rcases alt with ⟨a, b⟩ | a
          · exact Or.inl ⟨a, fun n' y k h1 => b n' y k (by omega)⟩
          · exact Or.inr a
        | succ m ihm =>
          intro n g2 f2 x2 hn F2 e2 ef2 fi2 alt cle
          refine b_X11_laysFar_68 (d := d + 2) _ _ (F2.ko kog) ?_
          rw [cells g2 F2]
          refine ⟨fun z => absurd z (nI_ge (by omega) (by omega)), fun _ => ?_⟩
          refine inner n (by omega) (fun g3 f3 x3 a b c e f c3 => ihm (n + 1) g3 f3 x3 (by omega) a b c e f c3) 4 0 g2 f2 x2 (by omega) F2 e2 ef2 fi2 ?_ cle
          rcases alt with ⟨a, b⟩ | a
          · exact Or.inl ⟨a, fun n' y' k h1 h2 => b n' y' k (by omega) h2⟩
          · exact Or.inr a
      refine b_X11_laysFar_57 (d := d + 2) _ (F.ko kog) ⟨fun z => absurd z (by decide), fun _ => ?_⟩
      exact outer _ 0 g' f 0 (Nat.zero_add _) F eth ef fi (Or.inl ⟨rfl, fun n' y k h1 => absurd h1 (by omega)⟩) (Nat.le_refl _)
  -- the row laid
  have lay : ∀ (m n : Nat) (g' : eb_H) (f : Nat → Nat), n + m = 64 * (w.va.R * w.va.W) → ec_fr ec_mf g g' → eb_I g' s_m_then = eb_I g1 s_m_then → (∀ k, k < n → eb_I g' s_m_far k = nI (f k)) → ec_FI (ec_g w.va w.now w.now.D) (ec_goal c a b) n f → eb_Sn (d + 4) m_X11_laysFar g 14 [(0, .ref s_MO), (1, .int (nI c)), (2, .int (nI a)), (3, .int (nI b)), (4, .int (nI n))] [] g' Q := by
    intro m
    induction m with
    | zero =>
      intro n g' f hn F e2 ef fi
      have : n = 64 * (w.va.R * w.va.W) := by omega
      subst this
      refine b_X11_laysFar_14 (d := d + 2) _ _ _ _ (F.ko kog) ?_
      rw [cells g' F]
      refine ⟨fun _ => ?_, fun z => absurd (nI_le (by omega) (by omega)) z⟩
      exact pass _ g' f F e2 ef fi (Nat.lt_succ_self _)
    | succ m ih =>
      intro n g' f hn F e2 ef fi
      refine b_X11_laysFar_14 (d := d + 2) _ _ _ _ (F.ko kog) ?_
      rw [cells g' F]
      refine ⟨fun z => absurd z (nI_ge (by omega) (by omega)), fun _ => ⟨vp_in_nI (by omega) (by omega), ?_⟩⟩
      rw [eb_cln (n := n) (by omega), nI_1]
      have stp : ∀ v : Nat, v ≤ 268435456 → (v < 268435456 → v = 0 ∧ ec_goal c a b n) → (ec_goal c a b n → v = 0) → eb_Sn (d + 4) m_X11_laysFar g 14 [(0, .ref s_MO), (1, .int (nI c)), (2, .int (nI a)), (3, .int (nI b)), (4, .int (nI (n + 1)))] [] (eb_sI g' s_m_far n (nI v)) Q := fun v v1 v2 v3 => by
        refine ih (n + 1) _ (ec_up f n v) (by omega) (F.sI (Or.inr rfl)) (by rw [eb_I_sIn (by decide)]; exact e2) (fun k hk => ?_) (fun k hk => ?_)
        · rw [eb_I_sI]
          by_cases e : k = n
          · rw [if_pos e, e, ec_up_s]
          · rw [if_neg e, ec_up_n e]; exact ef k (by omega)
        · by_cases e : k = n
          · rw [e, ec_up_s]
            refine ⟨v1, fun u => ?_, v3⟩
            obtain ⟨u1, u2⟩ := v2 u
            rw [u1]
            exact u2
          · rw [ec_up_n e]; exact fi k (by omega)
      by_cases z : ec_goal c a b n
      · rw [if_pos ((ec_glM (by omega) hc ha hb).mpr z)]
        exact stp 0 (by omega) (fun _ => ⟨rfl, z⟩) (fun _ => rfl)
      · rw [if_neg (fun u => z ((ec_glM (by omega) hc ha hb).mp u))]
        exact stp 268435456 (by omega) (fun u => absurd u (by omega)) (fun u => absurd u z)
  exact lay _ 0 g1 (fun _ => 0) (Nat.zero_add _) F1' rfl (fun k hk => absurd hk (by omega)) (fun k hk => absurd hk (by omega))
/-- the i-th step of what is laid -/
theorem M_sa {d : Nat} {g : eb_H} {Q : Option Value → eb_H → Prop} {w : eb_Wo} (p : PMS g 31 w.now) (ok : eb_okW w) (kog : eb_KO g) {c a b : Nat} {f : Nat → Nat} (th : ∀ n way, n < 64 * (w.va.R * w.va.W) → way < 4 → eb_I g s_m_then (4 * n + way) = ec_oi (ec_g w.va w.now w.now.D n way)) (ef : ∀ n, n < 64 * (w.va.R * w.va.W) → eb_I g s_m_far n = nI (f n)) (fd : ec_FD (ec_g w.va w.now w.now.D) (ec_goal c a b) (64 * (w.va.R * w.va.W)) f) {D : Nat} {st wy : Nat → Nat} (t : ec_tr (ec_g w.va w.now w.now.D) (64 * w.now.b + w.now.e) (64 * (w.va.R * w.va.W)) (ec_goal c a b) D st wy) (i : Nat) (hi : i < 2 ^ 31) (q : Q (some (.int (if i < D then nI (wy (D - 1 - i)) else -1))) g) : eb_Ct (d + 1) 234 [.ref s_MO, .int (nI i)] g Q := by
  obtain ⟨r1, r2, r3, r4, r5, r6, r7, r8, r9, r10, _⟩ := ok.va.RW
  obtain ⟨n1, n2, n3, n4, n5, n6, n7⟩ := ok.now.N ok.va
  have dN := t.1.1
  have outer : ∀ (j k : Nat), j + k = D → k ≤ i → eb_Sn (d + 1) m_X11_stepAt g 7 [(0, .ref s_MO), (1, .int (nI i)), (2, .int (nI (st j))), (3, .int (nI k))] [] g Q := by
    intro j
    induction j with
    | zero =>
      intro k hk hki
      have sn := t.2.1 0 (by omega)
      have f0 := fd.tr t (by omega) 0 (by omega)
      refine b_X11_stepAt_7 (d := d) _ _ _ kog ?_
      rw [eb_cln (n := st 0) (by omega), ef _ sn, f0]
      rw [if_neg (by omega)] at q
      exact ⟨vp_in_nI (by omega) (by omega), fun _ => q, fun z => absurd (by decide) z⟩
    | succ j ih =>
      intro k hk hki
      have sn := t.2.1 (j + 1) (by omega)
      have sn0 := t.2.1 j (by omega)
      have fj := fd.tr t (by omega) (j + 1) (by omega)
      have fj0 := fd.tr t (by omega) j (by omega)
      obtain ⟨w4, we⟩ := t.2.2.1 j (by omega)
      refine b_X11_stepAt_7 (d := d) _ _ _ kog ?_
      rw [eb_cln (n := st (j + 1)) (by omega), ef _ sn, fj]
      refine ⟨vp_in_nI (by omega) (by omega), fun z => absurd z (nI_nle (by omega) (by omega)), fun _ => ⟨vp_in_nI (by omega) (by omega), fun z => absurd z (nI_ge (b := 268435456) (by omega) (by omega)), fun _ => ?_⟩⟩
      have inner : ∀ (m y : Nat), y + m = wy j → eb_Sn (d + 1) m_X11_stepAt g 31 [(0, .ref s_MO), (1, .int (nI i)), (2, .int (nI (st (j + 1)))), (3, .int (nI k)), (4, .int (nI y))] [] g Q := by
        intro m
        induction m with
        | zero =>
          intro y hy
          have hy : y = wy j := by omega
          subst hy
          have e4 : (4 : Int32) * nI (st (j + 1)) + nI (wy j) = nI (4 * st (j + 1) + wy j) := by
            rw [show (4 : Int32) * nI (st (j + 1)) = nI (4 * st (j + 1)) from pk_mul 4 _, nI_add]
          have et : eb_I g s_m_then (4 * st (j + 1) + wy j) = nI (st j) := by rw [th _ _ sn w4, we]; rfl
          refine b_X11_stepAt_31 (d := d) _ _ _ _ kog ?_
          rw [e4, eb_cln (n := 4 * st (j + 1) + wy j) (by omega), et, eb_cln (n := st (j + 1)) (by omega), ef _ sn, fj, eb_cln (n := st j) (by omega), ef _ sn0, fj0, nI_1, nI_1]
          refine ⟨vp_in_nI (by omega) (by omega), fun z => absurd z (ec_m1 (by omega)), fun _ => ⟨vp_in_nI (by omega) (by omega), fun _ => ⟨vp_in_nI (by omega) (by omega), vp_in_nI (by omega) (by omega), fun _ => ⟨fun z => ⟨vp_in_nI (by omega) (by omega), ?_⟩, fun z => ?_⟩, fun z => absurd (nI_1 j) z⟩, fun z => ?_⟩⟩
          · rw [nI_eq (by omega) (by omega)] at z
            exact ih (k + 1) (by omega) (by omega)
          · rw [nI_eq (by omega) (by omega)] at z
            rw [if_pos (by omega), show D - 1 - i = j by omega] at q
            exact q
          · have z : nI j = nI 268435456 := z
            rw [nI_eq (by omega) (by omega)] at z
            omega
        | succ m ihm =>
          intro y hy
          have e4 : (4 : Int32) * nI (st (j + 1)) + nI y = nI (4 * st (j + 1) + y) := by
            rw [show (4 : Int32) * nI (st (j + 1)) = nI (4 * st (j + 1)) from pk_mul 4 _, nI_add]
          have nf : ¬ ((268435456 : Int32) = nI (j + 1)) := fun z => by
            have z : nI 268435456 = nI (j + 1) := z
            rw [nI_eq (by omega) (by omega)] at z
            omega
          refine b_X11_stepAt_31 (d := d) _ _ _ _ kog ?_
          rw [e4, eb_cln (n := 4 * st (j + 1) + y) (by omega), th _ _ sn (show y < 4 by omega), eb_cln (n := st (j + 1)) (by omega), ef _ sn, fj, nI_1, nI_1]
          refine ⟨vp_in_nI (by omega) (by omega), ?_⟩
          cases hg : ec_g w.va w.now w.now.D (st (j + 1)) y with
          | none => exact ⟨fun _ => ⟨vp_in_nI (by omega) (by omega), fun z => absurd z nf, fun _ => ihm (y + 1) (by omega)⟩, fun z => absurd rfl z⟩
          | some k0 =>
            have hk0 := ec_g_lt ok.va ok.now sn hg
            have bk := fd.1 k0 hk0
            have yn : ec_oi (some k0) = nI k0 := rfl
            rw [yn, eb_cln (n := k0) (by omega), ef k0 hk0, nI_1]
            refine ⟨fun z => absurd z (ec_m1 (by omega)), fun _ => ⟨vp_in_nI (by omega) (by omega), fun z => ⟨vp_in_nI (by omega) (by omega), vp_in_nI (by omega) (by omega), fun x => ?_, fun _ => ihm (y + 1) (by omega)⟩, fun _ => ⟨vp_in_nI (by omega) (by omega), fun x => absurd x nf, fun _ => ihm (y + 1) (by omega)⟩⟩⟩
            exfalso
            rw [nI_eq (by omega) (by omega)] at x
            have fk : f k0 = j := by omega
            have wk := bk.2.1 (by omega)
            rw [fk] at wk
            exact t.2.2.2.2 j y k0 (by omega) (by omega) hg j (Nat.le_refl _) wk
      exact inner (wy j) 0 (by omega)
  refine T_X11_stepAt (d := d) _ kog ?_
  rw [ec_stand p ok.va ok.now, ← t.1.2.1]
  exact outer D 0 (by omega) (by omega)
/-- nothing is laid: no step -/
theorem M_sn {d : Nat} {g : eb_H} {Q : Option Value → eb_H → Prop} {w : eb_Wo} (p : PM w g) (ok : eb_okW w) (kog : eb_KO g) {f : Nat → Nat} (ef : ∀ n, n < 64 * (w.va.R * w.va.W) → eb_I g s_m_far n = nI (f n)) (hf : f (64 * w.now.b + w.now.e) = 268435456) (x : Int32) (q : Q (some (.int (-1))) g) : eb_Ct (d + 1) 234 [.ref s_MO, .int x] g Q := by
  obtain ⟨r1, r2, r3, r4, r5, r6, r7, r8, r9, r10, _⟩ := ok.va.RW
  obtain ⟨n1, n2, n3, n4, n5, n6, n7⟩ := ok.now.N ok.va
  refine T_X11_stepAt (d := d) _ kog (b_X11_stepAt_7 (d := d) _ _ _ kog ?_)
  rw [ec_stand p.now ok.va ok.now, eb_cln (by omega), ef _ (by omega), hf]
  exact ⟨vp_in_nI (by omega) (by omega), fun _ => q, fun _ => ⟨vp_in_nI (by omega) (by omega), fun _ => q, fun z => absurd (by decide) z⟩⟩
end EBFAR
