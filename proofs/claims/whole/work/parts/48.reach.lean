section EBREACH
variable {L : Nat} {xs : Nat → Int32}
theorem ec_cnt_lt {P P' : Nat → Bool} : ∀ (m k : Nat), (∀ q, P' q = true → P q = true) → (∃ q, k ≤ q ∧ q < k + m ∧ P q = true ∧ P' q = false) → ec_cnt P' m k < ec_cnt P m k
  | 0, k, _, h => by
    obtain ⟨q, a, b, _⟩ := h
    omega
  | m + 1, k, hp, h => by
    have le : ∀ m k, ec_cnt P' m k ≤ ec_cnt P m k := by
      intro m
      induction m with
      | zero => intro k; exact Nat.le_refl _
      | succ m ih =>
        intro k
        have := ih (k + 1)
        show (if P' k = true then 1 else 0) + ec_cnt P' m (k + 1) ≤ (if P k = true then 1 else 0) + ec_cnt P m (k + 1)
        by_cases z : P' k = true
        · rw [if_pos z, if_pos (hp k z)]; omega
        · rw [if_neg z]; omega
    show (if P' k = true then 1 else 0) + ec_cnt P' m (k + 1) < (if P k = true then 1 else 0) + ec_cnt P m (k + 1)
    obtain ⟨q, a, b, c, e⟩ := h
    by_cases qk : q = k
    · rw [qk] at c e
      have := le m (k + 1)
      rw [if_neg (by rw [e]; decide), if_pos c]
      omega
    · have := ec_cnt_lt m (k + 1) hp ⟨q, by omega, by omega, c, e⟩
      by_cases z : P' k = true
      · rw [if_pos z, if_pos (hp k z)]; omega
      · rw [if_neg z]; omega
def ec_mr (c : Nat) : Prop := ec_mt c ∨ c = s_m_reached
theorem ec_mr_M (c : Nat) (z : ec_mr c) : eb_isM c := by
  rcases z with z | rfl
  · exact ec_mt_M c z
  · unfold eb_isM eb_ix s_m_reached; omega
theorem PM.mr {w : eb_Wo} {h h' : eb_H} (p : PM w h) (f : ec_fr ec_mr h h') : PM w h' := p.fr f (by unfold ec_mr ec_mt ec_mw; decide) (fun c z => by
  unfold ec_mr ec_mt ec_mw
  rcases z with rfl | rfl | rfl | rfl | rfl <;> decide)
def ec_zs (h : eb_H) (n : Nat) : Bool := decide (eb_I h s_m_reached n = 0)
theorem ec_rc_lt {V : eb_Va} {s : eb_St} {D n : Nat} (ok : eb_okV V) (os : eb_okS V s) (h : ec_rc (ec_g V s D) (64 * s.b + s.e) n) : n < 64 * (V.R * V.W) := by
  obtain ⟨n1, n2, n3, n4, n5, n6, n7⟩ := os.N ok
  exact h (fun n => n < 64 * (V.R * V.W)) (by omega) (fun n y k a _ e => ec_g_lt ok os a e)
theorem M_lr {d : Nat} {g : eb_H} {Q : Option Value → eb_H → Prop} {w : eb_Wo} (p : PM w g) (ok : eb_okW w) (kog : eb_KO g) (D : Nat) (hD : D < 65536) (q : ∀ g', ec_fr ec_mr g g' → (∀ n, n < 1024 → (eb_I g' s_m_reached n = 0 ↔ ¬ ec_rc (ec_g w.va w.now D) (64 * w.now.b + w.now.e) n)) → Q none g') : eb_Ct (d + 4) 229 [.ref s_MO, .int (nI D)] g Q := by
  obtain ⟨r1, r2, r3, r4, r5, r6, r7, r8, r9, r10, _⟩ := ok.va.RW
  obtain ⟨n1, n2, n3, n4, n5, n6, n7⟩ := ok.now.N ok.va
  have cells : ∀ g', ec_fr ec_mr g g' → (64 : Int32) * ((eb_I g' s_m_all (1 : Int32).toNatClampNeg) * (eb_I g' s_m_all (2 : Int32).toNatClampNeg)) = nI (64 * (w.va.R * w.va.W)) := fun g' F => by
    have pg := p.mr F
    have eR : eb_I g' s_m_all (1 : Int32).toNatClampNeg = nI w.va.R := pg.va.2.1.trans r1
    have eW : eb_I g' s_m_all (2 : Int32).toNatClampNeg = nI w.va.W := pg.va.2.2.1.trans r2
    rw [eR, eW, pk_mul, show (64 : Int32) * nI (w.va.R * w.va.W) = nI (64 * (w.va.R * w.va.W)) from pk_mul 64 _]
  refine T_X11_laysReached (d := d + 2) _ kog (M_then (d := d) p ok kog D hD (fun g1 F1 th => ⟨rfl, F1.ko kog, ?_⟩))
  have F1' : ec_fr ec_mr g g1 := F1.weak (fun c z => Or.inl z)
  -- the great loop: what stands in the row can be come to
  have pass : ∀ (U : Nat), (∀ g', ec_fr ec_mr g g' → eb_I g' s_m_then = eb_I g1 s_m_then → (∀ n, n < 1024 → ¬ eb_I g' s_m_reached n = 0 → ec_rc (ec_g w.va w.now D) (64 * w.now.b + w.now.e) n) → ¬ eb_I g' s_m_reached (64 * w.now.b + w.now.e) = 0 → ec_cnt (ec_zs g') 1024 0 < U → eb_Sn (d + 4) m_X11_laysReached g 41 [(0, .ref s_MO), (2, .int 1)] [] g' Q) := by
    intro U
    induction U with
    | zero => intro g' _ _ _ _ h; omega
    | succ U ih =>
      intro g' F eth rcs z0 hU
      have fin : ∀ g2 (x2 : Int32), ec_fr ec_mr g g2 → eb_I g2 s_m_then = eb_I g1 s_m_then → (∀ n, n < 1024 → ¬ eb_I g2 s_m_reached n = 0 → ec_rc (ec_g w.va w.now D) (64 * w.now.b + w.now.e) n) → ¬ eb_I g2 s_m_reached (64 * w.now.b + w.now.e) = 0 → ((x2 = 0 ∧ ∀ n y k, n < 64 * (w.va.R * w.va.W) → y < 4 → ¬ eb_I g2 s_m_reached n = 0 → ec_g w.va w.now D n y = some k → ¬ eb_I g2 s_m_reached k = 0) ∨ (x2 = 1 ∧ ec_cnt (ec_zs g2) 1024 0 < ec_cnt (ec_zs g') 1024 0)) → eb_Sn (d + 4) m_X11_laysReached g 41 [(0, .ref s_MO), (2, .int x2)] [] g2 Q := by
        intro g2 x2 F2 e2 rc2 z2 alt
        rcases alt with ⟨rfl, cl⟩ | ⟨rfl, lt⟩
        · refine b_X11_laysReached_41 (d := d + 2) _ (F2.ko kog) ⟨fun _ => q g2 F2 (fun n hn => ⟨fun z u => ?_, fun z => ?_⟩), fun z => absurd rfl z⟩
          · have : n < 64 * (w.va.R * w.va.W) ∧ ¬ eb_I g2 s_m_reached n = 0 := u (fun n => n < 64 * (w.va.R * w.va.W) ∧ ¬ eb_I g2 s_m_reached n = 0) ⟨by omega, z2⟩ (fun n y k a b c => ⟨ec_g_lt ok.va ok.now a.1 c, cl n y k a.1 b a.2 c⟩)
            exact this.2 z
          · exact Classical.byContradiction fun u => z (rc2 n hn u)
        · exact ih g2 F2 e2 rc2 z2 (by omega)
      have inner : ∀ (n : Nat), n < 64 * (w.va.R * w.va.W) → (∀ g2 (x2 : Int32), ec_fr ec_mr g g2 → eb_I g2 s_m_then = eb_I g1 s_m_then → (∀ n, n < 1024 → ¬ eb_I g2 s_m_reached n = 0 → ec_rc (ec_g w.va w.now D) (64 * w.now.b + w.now.e) n) → ¬ eb_I g2 s_m_reached (64 * w.now.b + w.now.e) = 0 → ((x2 = 0 ∧ ∀ n' y k, n' < n + 1 → y < 4 → ¬ eb_I g2 s_m_reached n' = 0 → ec_g w.va w.now D n' y = some k → ¬ eb_I g2 s_m_reached k = 0) ∨ (x2 = 1 ∧ ec_cnt (ec_zs g2) 1024 0 < ec_cnt (ec_zs g') 1024 0)) → ec_cnt (ec_zs g2) 1024 0 ≤ ec_cnt (ec_zs g') 1024 0 → eb_Sn (d + 4) m_X11_laysReached g 49 [(0, .ref s_MO), (2, .int x2), (3, .int (nI (n + 1)))] [] g2 Q) → ∀ (m y : Nat) (g2 : eb_H) (x2 : Int32), y + m = 4 → ec_fr ec_mr g g2 → eb_I g2 s_m_then = eb_I g1 s_m_then → (∀ n, n < 1024 → ¬ eb_I g2 s_m_reached n = 0 → ec_rc (ec_g w.va w.now D) (64 * w.now.b + w.now.e) n) → ¬ eb_I g2 s_m_reached (64 * w.now.b + w.now.e) = 0 → ((x2 = 0 ∧ ∀ n' y' k, 4 * n' + y' < 4 * n + y → y' < 4 → ¬ eb_I g2 s_m_reached n' = 0 → ec_g w.va w.now D n' y' = some k → ¬ eb_I g2 s_m_reached k = 0) ∨ (x2 = 1 ∧ ec_cnt (ec_zs g2) 1024 0 < ec_cnt (ec_zs g') 1024 0)) → ec_cnt (ec_zs g2) 1024 0 ≤ ec_cnt (ec_zs g') 1024 0 → eb_Sn (d + 4) m_X11_laysReached g 60 [(0, .ref s_MO), (2, .int x2), (3, .int (nI n)), (4, .int (nI y))] [] g2 Q := by
        intro n hn nxt m
        induction m with
        | zero =>
          intro y g2 x2 hy F2 e2 rc2 z2 alt cle
          refine b_X11_laysReached_60 (d := d + 2) _ _ _ (F2.ko kog) ⟨fun _ => ?_, fun z => absurd (nI_le (a := 4) (by omega) (by omega)) z⟩
          rw [nI_1]
          refine nxt g2 x2 F2 e2 rc2 z2 ?_ cle
          rcases alt with ⟨a, b⟩ | a
          · exact Or.inl ⟨a, fun n' y' k h1 h2 => b n' y' k (by omega) h2⟩
          · exact Or.inr a
        | succ m ihm =>
          intro y g2 x2 hy F2 e2 rc2 z2 alt cle
          have e4 : (4 : Int32) * nI n + nI y = nI (4 * n + y) := by
            rw [show (4 : Int32) * nI n = nI (4 * n) from pk_mul 4 n, nI_add]
          have et : eb_I g2 s_m_then (4 * n + y) = ec_oi (ec_g w.va w.now D n y) := by rw [e2]; exact th n y hn (by omega)
          refine b_X11_laysReached_60 (d := d + 2) _ _ _ (F2.ko kog) ⟨fun z => absurd z (nI_ge (a := y) (b := 4) (by omega) (by omega)), fun _ => ⟨vp_in_nI (by omega) (by omega), ?_⟩⟩
          rw [e4, eb_cln (n := n) (by omega), eb_cln (n := 4 * n + y) (by omega), et, nI_1, nI_1]
          refine ⟨fun z => ?_, fun z => ⟨vp_in_nI (by omega) (by omega), ?_⟩⟩
          · refine nxt g2 x2 F2 e2 rc2 z2 ?_ cle
            rcases alt with ⟨a, b⟩ | a
            · refine Or.inl ⟨a, fun n' y' k h1 h2 h3 h4 => ?_⟩
              by_cases e : n' = n
              · rw [e] at h3
                exact absurd z h3
              · exact b n' y' k (by omega) h2 h3 h4
            · exact Or.inr a
          · cases hg : ec_g w.va w.now D n y with
            | none =>
              refine ⟨fun _ => ihm (y + 1) g2 x2 (by omega) F2 e2 rc2 z2 ?_ cle, fun u => absurd rfl u⟩
              rcases alt with ⟨a, b⟩ | a
              · refine Or.inl ⟨a, fun n' y' k h1 h2 h3 h4 => ?_⟩
                by_cases e : 4 * n' + y' < 4 * n + y
                · exact b n' y' k e h2 h3 h4
                · have h5 : n' = n := by omega
                  have h6 : y' = y := by omega
                  rw [h5, h6, hg] at h4
                  cases h4
              · exact Or.inr a
            | some k0 =>
              have hk0 := ec_g_lt ok.va ok.now hn hg
              have yn : ec_oi (some k0) = nI k0 := rfl
              rw [yn]
              refine ⟨fun u => absurd u (ec_m1 (by omega)), fun _ => ⟨vp_in_nI (by omega) (by omega), ?_⟩⟩
              rw [eb_cln (n := k0) (by omega)]
              refine ⟨fun u => ⟨vp_in_nI (by omega) (by omega), ?_⟩, fun u => ?_⟩
              · have e11 : (1 : Int32) &&& 1 = 1 := by decide
                rw [e11]
                have sub : ∀ q', ec_zs (eb_sI g2 s_m_reached k0 1) q' = true → ec_zs g2 q' = true := fun q' hq => by
                  unfold ec_zs at hq ⊢
                  rw [decide_eq_true_iff, eb_I_sI] at hq
                  rw [decide_eq_true_iff]
                  by_cases e : q' = k0
                  · rw [if_pos e] at hq
                    exact absurd hq (by decide)
                  · rw [if_neg e] at hq
                    exact hq
                have lt : ec_cnt (ec_zs (eb_sI g2 s_m_reached k0 1)) 1024 0 < ec_cnt (ec_zs g2) 1024 0 := ec_cnt_lt 1024 0 sub ⟨k0, by omega, by omega, by unfold ec_zs; rw [decide_eq_true_iff]; exact u, by unfold ec_zs; rw [eb_I_sI']; decide⟩
                refine ihm (y + 1) _ 1 (by omega) (F2.sI (Or.inr rfl)) (by rw [eb_I_sIn (by decide)]; exact e2) (fun n' hn' hz => ?_) ?_ (Or.inr ⟨rfl, by omega⟩) (by omega)
                · rw [eb_I_sI] at hz
                  by_cases e : n' = k0
                  · rw [e]
                    exact (rc2 n (by omega) z).step (by omega) hg
                  · rw [if_neg e] at hz
                    exact rc2 n' hn' hz
                · rw [eb_I_sI]
                  by_cases e : 64 * w.now.b + w.now.e = k0
                  · rw [if_pos e]; decide
                  · rw [if_neg e]; exact z2
              · refine ihm (y + 1) g2 x2 (by omega) F2 e2 rc2 z2 ?_ cle
                rcases alt with ⟨a, b⟩ | a
                · refine Or.inl ⟨a, fun n' y' k h1 h2 h3 h4 => ?_⟩
                  by_cases e : 4 * n' + y' < 4 * n + y
                  · exact b n' y' k e h2 h3 h4
                  · have h5 : n' = n := by omega
                    have h6 : y' = y := by omega
                    rw [h5, h6, hg] at h4
                    cases h4
                    exact u
                · exact Or.inr a
      have outer : ∀ (m n : Nat) (g2 : eb_H) (x2 : Int32), n + m = 64 * (w.va.R * w.va.W) → ec_fr ec_mr g g2 → eb_I g2 s_m_then = eb_I g1 s_m_then → (∀ n, n < 1024 → ¬ eb_I g2 s_m_reached n = 0 → ec_rc (ec_g w.va w.now D) (64 * w.now.b + w.now.e) n) → ¬ eb_I g2 s_m_reached (64 * w.now.b + w.now.e) = 0 → ((x2 = 0 ∧ ∀ n' y k, n' < n → y < 4 → ¬ eb_I g2 s_m_reached n' = 0 → ec_g w.va w.now D n' y = some k → ¬ eb_I g2 s_m_reached k = 0) ∨ (x2 = 1 ∧ ec_cnt (ec_zs g2) 1024 0 < ec_cnt (ec_zs g') 1024 0)) → ec_cnt (ec_zs g2) 1024 0 ≤ ec_cnt (ec_zs g') 1024 0 → eb_Sn (d + 4) m_X11_laysReached g 49 [(0, .ref s_MO), (2, .int x2), (3, .int (nI n))] [] g2 Q := by
        intro m
        induction m with
        | zero =>
          intro n g2 x2 hn F2 e2 rc2 z2 alt cle
          refine b_X11_laysReached_49 (d := d + 2) _ _ (F2.ko kog) ?_
          rw [cells g2 F2]
          refine ⟨fun _ => fin g2 x2 F2 e2 rc2 z2 ?_, fun z => absurd (nI_le (by omega) (by omega)) z⟩
          rcases alt with ⟨a, b⟩ | a
          · exact Or.inl ⟨a, fun n' y k h1 => b n' y k (by omega)⟩
          · exact Or.inr a
        | succ m ihm =>
          intro n g2 x2 hn F2 e2 rc2 z2 alt cle
          refine b_X11_laysReached_49 (d := d + 2) _ _ (F2.ko kog) ?_
          rw [cells g2 F2]
          refine ⟨fun z => absurd z (nI_ge (by omega) (by omega)), fun _ => ?_⟩
          refine inner n (by omega) (fun g3 x3 a b c e f c3 => ihm (n + 1) g3 x3 (by omega) a b c e f c3) 4 0 g2 x2 (by omega) F2 e2 rc2 z2 ?_ cle
          rcases alt with ⟨a, b⟩ | a
          · exact Or.inl ⟨a, fun n' y' k h1 h2 => b n' y' k (by omega) h2⟩
          · exact Or.inr a
      refine b_X11_laysReached_41 (d := d + 2) _ (F.ko kog) ⟨fun z => absurd z (by decide), fun _ => ?_⟩
      exact outer _ 0 g' 0 (Nat.zero_add _) F eth rcs z0 (Or.inl ⟨rfl, fun n' y k h1 => absurd h1 (by omega)⟩) (Nat.le_refl _)
  -- the row laid
  have lay : ∀ (m n : Nat) (g' : eb_H), n + m = 1024 → ec_fr ec_mr g g' → eb_I g' s_m_then = eb_I g1 s_m_then → (∀ k, k < n → (eb_I g' s_m_reached k = 0 ↔ ¬ k = 64 * w.now.b + w.now.e)) → eb_Sn (d + 4) m_X11_laysReached g 7 [(0, .ref s_MO), (2, .int (nI n))] [] g' Q := by
    intro m
    induction m with
    | zero =>
      intro n g' hn F e2 a
      have : n = 1024 := by omega
      subst this
      refine b_X11_laysReached_7 (d := d + 2) _ (F.ko kog) ⟨fun _ => ?_, fun z => absurd (by decide) z⟩
      refine pass 1025 g' F e2 (fun n hn hz => ?_) (fun z => ?_) (by have := ec_cnt_le (ec_zs g') 1024 0; omega)
      · have : n = 64 * w.now.b + w.now.e := Classical.byContradiction fun u => hz ((a n hn).mpr u)
        rw [this]
        exact ec_rc.base _ _
      · exact (a _ (by omega)).mp z rfl
    | succ m ih =>
      intro n g' hn F e2 a
      have pg := p.mr F
      refine b_X11_laysReached_7 (d := d + 2) _ (F.ko kog) ⟨fun z => absurd z (nI_ge (a := n) (b := 1024) (by omega) (by omega)), fun _ => ⟨vp_in_nI (by omega) (by omega), ?_⟩⟩
      rw [ec_stand pg.now ok.va ok.now, eb_cln (by omega), nI_1]
      refine ih (n + 1) _ (by omega) (F.sI (Or.inr rfl)) (by rw [eb_I_sIn (by decide)]; exact e2) (fun k hk => ?_)
      rw [eb_I_sI]
      by_cases e : k = n
      · rw [if_pos e, e]
        by_cases z : n = 64 * w.now.b + w.now.e
        · rw [eb_qt (by rw [z])]
          exact ⟨fun u => absurd u (by decide), fun u => absurd z u⟩
        · rw [eb_qf (by rw [nI_eq (by omega) (by omega)]; exact z)]
          exact ⟨fun _ => z, fun _ => by decide⟩
      · rw [if_neg e]; exact a k (by omega)
  exact lay 1024 0 g1 (by omega) F1' rfl (fun k hk => absurd hk (by omega))
end EBREACH
