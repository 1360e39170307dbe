section EBFORCE
variable {L : Nat} {xs : Nat → Int32}
theorem ec_a64 (x : Nat) {E : Nat} (hE : E < 64) : x &&& E = (x % 64) &&& E := by
  apply Nat.eq_of_testBit_eq
  intro i
  rw [Nat.testBit_and, Nat.testBit_and, show (64 : Nat) = 2 ^ 6 from rfl, Nat.testBit_mod_two_pow]
  by_cases z : i < 6
  · simp [z]
  · have : (2 : Nat) ^ 6 ≤ 2 ^ i := Nat.pow_le_pow_right (by decide) (by omega)
    rw [Nat.testBit_lt_two_pow (show E < 2 ^ i by omega)]
    simp
theorem ec_and_lt (x : Nat) {E : Nat} (hE : E < 64) : x &&& E < 64 := Nat.and_lt_two_pow (n := 6) _ hE
theorem ec_nb_ne {R W c way to : Nat} (hW : 0 < W) (h : ec_nb R W c way = some to) : to ≠ c := by
  unfold ec_nb at h
  split at h
  · split at h
    · cases h
    · cases h; omega
  · split at h
    · split at h
      · cases h
      · cases h; omega
    · split at h
      · split at h
        · cases h; omega
        · cases h
      · split at h
        · split at h
          · cases h
          · rename_i q
            cases h
            intro e
            apply q
            have : c = 0 := by omega
            rw [this]
            exact Nat.zero_mod _
        · cases h
/-- in the house with the echoes -/
def ec_th (hc E c e : Nat) : Bool := decide (c = hc) && decide (e &&& E = E)
theorem ec_th_iff {hc E c e : Nat} : ec_th hc E c e = true ↔ c = hc ∧ e &&& E = E := by unfold ec_th; simp
theorem ec_thM {c e E hc : Nat} (hcc : c < 16) (he : e < 64) (hE : E < 64) (hh : hc < 16) : ((nI (64 * c + e) / 64 = nI hc) ∧ ((nI (64 * c + e) &&& nI E = nI E) ∧ (nI (64 * c + e) &&& 0 = 0))) ↔ ec_th hc E c e = true := by
  rw [ec_th_iff, (ec_sI hcc he).1, nI_eq (by omega) (by omega), ec_and (by omega) (by omega), ec_a64 _ hE, (ec_sq he).2, nI_eq (by have := ec_and_lt e hE; omega) (by omega)]
  constructor
  · rintro ⟨a, b, _⟩
    exact ⟨a, b⟩
  · rintro ⟨a, b⟩
    refine ⟨a, b, ?_⟩
    rw [show (0 : Int32) = nI 0 from rfl, ec_and (by omega) (by omega), Nat.and_zero]
def ec_hb (V : eb_Va) (s : eb_St) (hc E D c e way : Nat) : Bool := decide (ec_why V s D c e way = 0) && (match ec_nb V.R V.W c way with
  | some to => ec_th hc E to (ec_ne V s c e to)
  | none => false)
def ec_hr (V : eb_Va) (s : eb_St) (hc E D c e : Nat) : Nat → Nat → Bool
  | 0, _ => false
  | m + 1, j => ec_hb V s hc E D c e j || ec_hr V s hc E D c e m (j + 1)
theorem ec_why5 {V : eb_Va} {s : eb_St} {D c e way : Nat} : ec_why V s D c e way < 5 := by
  unfold ec_why
  cases ec_nb V.R V.W c way with
  | none => dsimp only; omega
  | some to => dsimp only; split <;> (try split) <;> omega
theorem ec_hr_ex {V : eb_Va} {s : eb_St} {hc E D c e : Nat} : ∀ (m j : Nat), ec_hr V s hc E D c e m j = true → ∃ way, ec_hb V s hc E D c e way = true
  | 0, _, h => absurd h (by unfold ec_hr; decide)
  | m + 1, j, h => by
    unfold ec_hr at h
    simp at h
    rcases h with h | h
    · exact ⟨j, h⟩
    · exact ec_hr_ex m (j + 1) h
/-- a drift on the house: no step into it -/
theorem ec_hb_dr {V : eb_Va} {s : eb_St} {hc E D c e way : Nat} (h : D / 2 ^ hc % 2 = 1) : ec_hb V s hc E D c e way = false := by
  unfold ec_hb
  cases hn : ec_nb V.R V.W c way with
  | none => simp
  | some to =>
    dsimp only
    by_cases z : to = hc
    · have : ¬ ec_why V s D c e way = 0 := by
        unfold ec_why
        rw [hn]
        dsimp only
        rw [z, if_pos h]
        decide
      simp [this]
    · have : ec_th hc E to (ec_ne V s c e to) = false := by unfold ec_th; simp [z]
      simp [this]
theorem ec_hr_dr {V : eb_Va} {s : eb_St} {hc E D c e : Nat} (h : D / 2 ^ hc % 2 = 1) : ∀ (m j : Nat), ec_hr V s hc E D c e m j = false
  | 0, _ => rfl
  | m + 1, j => by
    unfold ec_hr
    rw [ec_hb_dr h, ec_hr_dr h m (j + 1)]
    rfl
theorem ec_orbit {D k : Nat} : (D ||| 2 ^ k) / 2 ^ k % 2 = 1 := by
  have : (D ||| 2 ^ k).testBit k = true := by
    rw [Nat.testBit_or, Nat.testBit_two_pow_self]
    simp
  rw [Nat.testBit_eq_decide_div_mod_eq] at this
  simpa using this
theorem M_whyD {d0 : Nat} (h2 : 2 ≤ d0) {h : eb_H} {Q : Option Value → eb_H → Prop} {V : eb_Va} {s : eb_St} (p : PMV h 0 V) (ps : PMS h 31 s) (ok : eb_okV V) (os : eb_okS V s) (D c e way : Nat) (hD : D < 65536) (hc : c < V.R * V.W) (he : e < 64) (hw : way < 4) (ko : eb_KO h) (w : ∀ h', ec_fr ec_mw h h' → Q (some (.int (nI (ec_why V s D c e way)))) h') : eb_Ct d0 199 [.ref s_MO, .int (nI (64 * c + e)), .int (nI way), .int (nI D)] h Q := by
  obtain ⟨d, rfl⟩ : ∃ d, d0 = d + 2 := ⟨d0 - 2, by omega⟩
  exact M_why p ps ok os D c e way hD hc he hw ko w
theorem M_stD {d0 : Nat} (h2 : 2 ≤ d0) {h : eb_H} {Q : Option Value → eb_H → Prop} {V : eb_Va} {s : eb_St} (p : PMV h 0 V) (ps : PMS h 31 s) (ok : eb_okV V) (os : eb_okS V s) (c e way to : Nat) (hc : c < V.R * V.W) (he : e < 64) (hw : way < 4) (hn : ec_nb V.R V.W c way = some to) (ko : eb_KO h) (w : ∀ h', ec_fr ec_mw h h' → Q (some (.int (nI (64 * to + ec_ne V s c e to)))) h') : eb_Ct d0 200 [.ref s_MO, .int (nI (64 * c + e)), .int (nI way)] h Q := by
  obtain ⟨d, rfl⟩ : ∃ d, d0 = d + 2 := ⟨d0 - 2, by omega⟩
  exact M_st p ps ok os c e way to hc he hw hn ko w
/-- he: whatever is forced with him next is already so; she: at once, or not at all -/
theorem M_force {w : eb_Wo} (ok : eb_okW w) (hh hc E : Nat) (hh4 : hh < w.va.houses) (ehc : w.va.hc hh = nI hc) (hhc : hc < w.va.R * w.va.W) (hE : E < 64) : ∀ (t : Nat), t ≤ 3 →
    (∀ (d : Nat) (g : eb_H) (Q : Option Value → eb_H → Prop) (c e D : Nat), PM w g → eb_KO g → c < w.va.R * w.va.W → e < 64 → D < 65536 → (∀ g', ec_fr ec_mw g g' → ∀ y : Int32, (y = 0 ∨ y = 1) → (y = 0 ↔ ¬ (ec_th hc E c e = true ∨ (1 ≤ t ∧ ec_hr w.va w.now hc E D c e 4 0 = true))) → Q (some (.int y)) g') → eb_Ct (d + 6 + 4 * t) 262 [.ref s_MO, .int (nI (64 * c + e)), .int (nI D), .int (nI hh), .int (nI E), .int (nI t)] g Q)
    ∧ (∀ (d : Nat) (g : eb_H) (Q : Option Value → eb_H → Prop) (c e D : Nat), PM w g → eb_KO g → c < w.va.R * w.va.W → e < 64 → D < 65536 → (∀ g', ec_fr ec_mw g g' → ∀ y : Int32, (y = 0 ∨ y = 1) → (y = 0 ↔ ¬ ec_th hc E c e = true) → Q (some (.int y)) g') → eb_Ct (d + 7 + 4 * t) 264 [.ref s_MO, .int (nI (64 * c + e)), .int (nI D), .int (nI hh), .int (nI E), .int (nI t)] g Q) := by
  obtain ⟨r1, r2, r3, r4, r5, r6, r7, r8, r9, r10, _⟩ := ok.va.RW
  obtain ⟨n1, n2, n3, n4, n5, n6, n7⟩ := ok.now.N ok.va
  have h4 := ok.va.houses
  have e27 : (27 : Int32) + nI hh = nI (27 + hh) := ec_9 27 hh
  have ah : ∀ g, PM w g → eb_I g s_m_all (27 + hh) = nI hc := fun g p => by
    have := p.va.2.2.2.2.2.2.2.2 hh hh4
    rw [Nat.zero_add, ehc] at this
    exact this
  -- his out of hers
  have his : ∀ (t : Nat), t ≤ 3 → (∀ (d : Nat) (g : eb_H) (Q : Option Value → eb_H → Prop) (c e D : Nat), PM w g → eb_KO g → c < w.va.R * w.va.W → e < 64 → D < 65536 → (∀ g', ec_fr ec_mw g g' → ∀ y : Int32, (y = 0 ∨ y = 1) → (y = 0 ↔ ¬ (ec_th hc E c e = true ∨ (1 ≤ t ∧ ec_hr w.va w.now hc E D c e 4 0 = true))) → Q (some (.int y)) g') → eb_Ct (d + 6 + 4 * t) 262 [.ref s_MO, .int (nI (64 * c + e)), .int (nI D), .int (nI hh), .int (nI E), .int (nI t)] g Q) → (∀ (d : Nat) (g : eb_H) (Q : Option Value → eb_H → Prop) (c e D : Nat), PM w g → eb_KO g → c < w.va.R * w.va.W → e < 64 → D < 65536 → (∀ g', ec_fr ec_mw g g' → ∀ y : Int32, (y = 0 ∨ y = 1) → (y = 0 ↔ ¬ ec_th hc E c e = true) → Q (some (.int y)) g') → eb_Ct (d + 7 + 4 * t) 264 [.ref s_MO, .int (nI (64 * c + e)), .int (nI D), .int (nI hh), .int (nI E), .int (nI t)] g Q) := by
    intro t ht hers d g Q c e D p ko hcc he hD q
    rw [show d + 7 + 4 * t = (d + 5 + 4 * t) + 2 by omega]
    refine T_X11_his (d := d + 5 + 4 * t) _ _ _ _ _ ko ?_
    rw [e27, eb_cln (n := 27 + hh) (by omega), ah g p]
    refine ⟨vp_in_nI (by omega) (by omega), fun z => ?_, fun z => ?_⟩
    · rw [ec_thM (by omega) he hE (by omega)] at z
      have fin : ∀ g', ec_fr ec_mw g g' → Q (some (.int 0)) g' := fun g' F => q g' F 0 (Or.inl rfl) ⟨fun _ => z, fun _ => rfl⟩
      refine ⟨fun _ => fin g ec_fr.rfl, fun t0 => ?_⟩
      have t1 : 1 ≤ t := by
        refine Nat.one_le_iff_ne_zero.mpr fun y => t0 (by rw [y]; rfl)
      rw [show d + 5 + 4 * t + 1 = d + 6 + 4 * t by omega]
      refine hers d g _ c e D p ko hcc he hD (fun g9 F9 y _ hy => ⟨y, rfl, F9.ko ko, fun y1 => ?_, fun _ => fin g9 F9⟩)
      have hr : ec_hr w.va w.now hc E D c e 4 0 = true := by
        refine Classical.byContradiction fun u => y1 (hy.mpr ?_)
        intro v
        rcases v with v | v
        · exact z v
        · exact u v.2
      obtain ⟨way, hbw⟩ := ec_hr_ex _ _ hr
      have hbw' := hbw
      unfold ec_hb at hbw
      simp at hbw
      obtain ⟨wz, hb2⟩ := hbw
      obtain ⟨to, hn⟩ := ec_why_nb wz
      rw [hn] at hb2
      dsimp only at hb2
      have eto : to = hc := (ec_th_iff.mp hb2).1
      have nc : hc ≠ c := by rw [← eto]; exact ec_nb_ne r6 hn
      have nD : ¬ D / 2 ^ hc % 2 = 1 := fun u => by
        rw [ec_hb_dr u] at hbw'
        exact absurd hbw' (by decide)
      have loop : ∀ (m j : Nat) (g' : eb_H), j + m = hc → ec_fr ec_mw g g' → eb_Sn (d + 7 + 4 * t) m_X11_his g 37 [(0, .ref s_MO), (1, .int (nI (64 * c + e))), (2, .int (nI D)), (3, .int (nI hh)), (4, .int (nI E)), (5, .int (nI t)), (6, .int (nI j))] [] g' Q := by
        intro m
        induction m with
        | zero =>
          intro j g' hj F
          have hj : j = hc := by omega
          subst hj
          have pg := p.mw F
          rw [show d + 7 + 4 * t = (d + 5 + 4 * t) + 2 by omega]
          refine b_X11_his_37 (d := d + 5 + 4 * t) _ _ _ _ _ _ (F.ko ko) ?_
          have eR : eb_I g' s_m_all (1 : Int32).toNatClampNeg = nI w.va.R := pg.va.2.1.trans r1
          have eW : eb_I g' s_m_all (2 : Int32).toNatClampNeg = nI w.va.W := pg.va.2.2.1.trans r2
          rw [eR, eW, pk_mul, (ec_sI (show c < 16 by omega) he).1, ec_lbit (by omega) (by omega), ec_lN1, ec_shl1 (by omega), ec_or (by omega) (ec_p2 (by omega)), nI_eq (by omega) (by omega)]
          refine ⟨fun u => absurd u (nI_ge hhc (by omega)), fun _ => ⟨fun u => absurd u nc, fun _ => ⟨fun u => absurd u nD, fun _ => ?_⟩⟩⟩
          rw [show d + 5 + 4 * t + 1 = d + 6 + 4 * t by omega]
          have p16 : (2 : Nat) ^ j < 2 ^ 16 := wb_lt2 (by omega)
          refine hers d g' _ c e (D ||| 2 ^ j) pg (F.ko ko) hcc he (Nat.or_lt_two_pow (n := 16) hD p16) (fun g5 F5 y _ hy => ⟨y, rfl, F5.ko (F.ko ko), fun u => ?_, fun _ => fin g5 (F.trans F5)⟩)
          exfalso
          apply u
          rw [hy]
          intro v
          rcases v with v | v
          · exact z v
          · rw [ec_hr_dr ec_orbit] at v
            exact absurd v.2 (by decide)
        | succ m ih =>
          intro j g' hj F
          have pg := p.mw F
          have nxt := fun g5 (F5 : ec_fr ec_mw g' g5) => ih (j + 1) g5 (by omega) (F.trans F5)
          rw [show d + 7 + 4 * t = (d + 5 + 4 * t) + 2 by omega] at nxt ⊢
          refine b_X11_his_37 (d := d + 5 + 4 * t) _ _ _ _ _ _ (F.ko ko) ?_
          have eR : eb_I g' s_m_all (1 : Int32).toNatClampNeg = nI w.va.R := pg.va.2.1.trans r1
          have eW : eb_I g' s_m_all (2 : Int32).toNatClampNeg = nI w.va.W := pg.va.2.2.1.trans r2
          rw [eR, eW, pk_mul, ec_shl1 (by omega), ec_or (by omega) (ec_p2 (by omega)), nI_1]
          refine ⟨fun u => absurd u (nI_ge (by omega) (by omega)), fun _ => ⟨fun _ => nxt g' ec_fr.rfl, fun _ => ⟨fun _ => nxt g' ec_fr.rfl, fun _ => ?_⟩⟩⟩
          rw [show d + 5 + 4 * t + 1 = d + 6 + 4 * t by omega]
          have p16 : (2 : Nat) ^ j < 2 ^ 16 := wb_lt2 (by omega)
          exact hers d g' _ c e (D ||| 2 ^ j) pg (F.ko ko) hcc he (Nat.or_lt_two_pow (n := 16) hD p16) (fun g5 F5 y _ hy => ⟨y, rfl, F5.ko (F.ko ko), fun _ => nxt g5 F5, fun _ => fin g5 (F.trans F5)⟩)
      rw [show d + 5 + 4 * t + 2 = d + 7 + 4 * t by omega]
      exact loop hc 0 g9 (by omega) F9
    · rw [ec_thM (by omega) he hE (by omega)] at z
      exact q g ec_fr.rfl 1 (Or.inr rfl) ⟨fun u => absurd u (by decide), fun u => absurd z u⟩
  intro t
  induction t with
  | zero =>
    intro ht
    have hers0 : ∀ (d : Nat) (g : eb_H) (Q : Option Value → eb_H → Prop) (c e D : Nat), PM w g → eb_KO g → c < w.va.R * w.va.W → e < 64 → D < 65536 → (∀ g', ec_fr ec_mw g g' → ∀ y : Int32, (y = 0 ∨ y = 1) → (y = 0 ↔ ¬ (ec_th hc E c e = true ∨ (1 ≤ 0 ∧ ec_hr w.va w.now hc E D c e 4 0 = true))) → Q (some (.int y)) g') → eb_Ct (d + 6 + 4 * 0) 262 [.ref s_MO, .int (nI (64 * c + e)), .int (nI D), .int (nI hh), .int (nI E), .int (nI 0)] g Q := by
      intro d g Q c e D p ko hcc he hD q
      refine T_X11_hers (d := d + 4) _ _ _ _ _ ko ?_
      rw [e27, eb_cln (n := 27 + hh) (by omega), ah g p]
      refine ⟨vp_in_nI (by omega) (by omega), fun z => ⟨fun y => absurd rfl y, fun _ => ?_⟩, fun z => ?_⟩
      · rw [ec_thM (by omega) he hE (by omega)] at z
        refine q g ec_fr.rfl 0 (Or.inl rfl) ⟨fun _ v => ?_, fun _ => rfl⟩
        rcases v with v | v
        · exact z v
        · exact absurd v.1 (by omega)
      · rw [ec_thM (by omega) he hE (by omega)] at z
        exact q g ec_fr.rfl 1 (Or.inr rfl) ⟨fun u => absurd u (by decide), fun u => absurd (Or.inl z) u⟩
    exact ⟨hers0, his 0 (by omega) hers0⟩
  | succ t ih =>
    intro ht
    obtain ⟨_, hisT⟩ := ih (by omega)
    have hersS : ∀ (d : Nat) (g : eb_H) (Q : Option Value → eb_H → Prop) (c e D : Nat), PM w g → eb_KO g → c < w.va.R * w.va.W → e < 64 → D < 65536 → (∀ g', ec_fr ec_mw g g' → ∀ y : Int32, (y = 0 ∨ y = 1) → (y = 0 ↔ ¬ (ec_th hc E c e = true ∨ (1 ≤ t + 1 ∧ ec_hr w.va w.now hc E D c e 4 0 = true))) → Q (some (.int y)) g') → eb_Ct (d + 6 + 4 * (t + 1)) 262 [.ref s_MO, .int (nI (64 * c + e)), .int (nI D), .int (nI hh), .int (nI E), .int (nI (t + 1))] g Q := by
      intro d g Q c e D p ko hcc he hD q
      rw [show d + 6 + 4 * (t + 1) = (d + 8 + 4 * t) + 2 by omega]
      refine T_X11_hers (d := d + 8 + 4 * t) _ _ _ _ _ ko ?_
      rw [e27, eb_cln (n := 27 + hh) (by omega), ah g p]
      refine ⟨vp_in_nI (by omega) (by omega), fun z => ⟨fun _ => ?_, fun y => absurd y (nI_ne0 (by omega) (by omega))⟩, fun z => ?_⟩
      · rw [ec_thM (by omega) he hE (by omega)] at z
        have loop : ∀ (m j : Nat) (g' : eb_H), j + m = 4 → ec_fr ec_mw g g' → (∀ g2, ec_fr ec_mw g g2 → ∀ y : Int32, (y = 0 ∨ y = 1) → (y = 0 ↔ ¬ ec_hr w.va w.now hc E D c e m j = true) → Q (some (.int y)) g2) → eb_Sn (d + 8 + 4 * t + 2) m_X11_hers g 23 [(0, .ref s_MO), (1, .int (nI (64 * c + e))), (2, .int (nI D)), (3, .int (nI hh)), (4, .int (nI E)), (5, .int (nI (t + 1))), (6, .int (nI j))] [] g' Q := by
          intro m
          induction m with
          | zero =>
            intro j g' hj F w1
            refine b_X11_hers_23 (d := d + 8 + 4 * t) _ _ _ _ _ _ (F.ko ko) ⟨fun _ => ?_, fun u => absurd (nI_le (a := 4) (by omega) (by omega)) u⟩
            rw [nI_pred, show d + 8 + 4 * t + 1 = (d + 2) + 7 + 4 * t by omega]
            refine hisT (d + 2) g' _ c e D (p.mw F) (F.ko ko) hcc he hD (fun g2 F2 y y01 hy => ⟨y, rfl, F2.ko (F.ko ko), ?_, w1 g2 (F.trans F2) y y01 ?_⟩)
            · rcases y01 with rfl | rfl <;> rfl
            · rw [hy]
              exact ⟨fun _ => by unfold ec_hr; decide, fun _ => z⟩
          | succ m ihm =>
            intro j g' hj F w1
            have pg := p.mw F
            refine b_X11_hers_23 (d := d + 8 + 4 * t) _ _ _ _ _ _ (F.ko ko) ⟨fun u => absurd u (nI_ge (a := j) (b := 4) (by omega) (by omega)), fun _ => ?_⟩
            have us : ec_hr w.va w.now hc E D c e (m + 1) j = (ec_hb w.va w.now hc E D c e j || ec_hr w.va w.now hc E D c e m (j + 1)) := rfl
            rw [us] at w1
            refine T_X11_hersBy (d := d + 8 + 4 * t) _ _ _ _ _ _ (F.ko ko) ?_
            refine M_whyD (by omega) pg.va pg.now ok.va ok.now D c e j hD hcc he (by omega) (F.ko ko) (fun g1 F1 => ⟨_, rfl, F1.ko (F.ko ko), fun u => ⟨_, rfl, F1.ko (F.ko ko), fun _ => ?_, fun v => absurd rfl v⟩, fun u => ?_⟩)
            · have hb : ec_hb w.va w.now hc E D c e j = false := by
                unfold ec_hb
                have : ¬ ec_why w.va w.now D c e j = 0 := fun v => u (by rw [v]; rfl)
                simp [this]
              rw [hb, Bool.false_or] at w1
              rw [nI_1]
              exact ihm (j + 1) g1 (by omega) (F.trans F1) w1
            · have wz : ec_why w.va w.now D c e j = 0 := by
                refine Classical.byContradiction fun v => ?_
                exact nI_ne0 (Nat.pos_of_ne_zero v) (by have := ec_why5 (V := w.va) (s := w.now) (D := D) (c := c) (e := e) (way := j); omega) u
              obtain ⟨to, hn⟩ := ec_why_nb wz
              have hto := ec_nb_lt hcc r6 hn
              have hne := ec_ne_lt (V := w.va) (s := w.now) (c := c) (e := e) (to := to) he (n7 to (by omega)).2
              have p1 := pg.mw F1
              have hb : ec_hb w.va w.now hc E D c e j = ec_th hc E to (ec_ne w.va w.now c e to) := by
                unfold ec_hb
                rw [hn]
                simp [wz]
              refine M_stD (by omega) p1.va p1.now ok.va ok.now c e j to hcc he (by omega) hn (F1.ko (F.ko ko)) (fun g5 F5 => ⟨_, rfl, F5.ko (F1.ko (F.ko ko)), ?_⟩)
              rw [nI_pred, show d + 8 + 4 * t = (d + 1) + 7 + 4 * t by omega]
              refine hisT (d + 1) g5 _ to _ D (p1.mw F5) (F5.ko (F1.ko (F.ko ko))) hto hne hD (fun g8 F8 y y01 hy => ⟨y, rfl, F8.ko (F5.ko (F1.ko (F.ko ko))), _, rfl, F8.ko (F5.ko (F1.ko (F.ko ko))), fun v => ?_, fun v => ?_⟩)
              · rw [eb_q0] at v
                have v : y = 0 := Decidable.not_not.mp v
                have hf : ec_hb w.va w.now hc E D c e j = false := by
                  rw [hb]
                  cases hx : ec_th hc E to (ec_ne w.va w.now c e to) with
                  | true => exact absurd hx (hy.mp v)
                  | false => rfl
                rw [hf, Bool.false_or] at w1
                rw [nI_1]
                have := ihm (j + 1) g8 (by omega) (((F.trans F1).trans F5).trans F8) w1
                rw [show d + 1 + 7 + 4 * t = d + 8 + 4 * t by omega]
                exact this
              · rw [eb_q0] at v
                have hf : ec_hb w.va w.now hc E D c e j = true := by
                  rw [hb]
                  refine Classical.byContradiction fun x => v (fun y0 => y0 (hy.mpr x))
                rw [hf, Bool.true_or] at w1
                exact w1 g8 (((F.trans F1).trans F5).trans F8) 1 (Or.inr rfl) ⟨fun x => absurd x (by decide), fun x => absurd rfl x⟩
        refine loop 4 0 g (by omega) ec_fr.rfl (fun g2 F2 y y01 hy => q g2 F2 y y01 ?_)
        rw [hy]
        constructor
        · intro u v
          rcases v with v | v
          · exact z v
          · exact u v.2
        · intro u v
          exact u (Or.inr ⟨by omega, v⟩)
      · rw [ec_thM (by omega) he hE (by omega)] at z
        exact q g ec_fr.rfl 1 (Or.inr rfl) ⟨fun u => absurd u (by decide), fun u => absurd (Or.inl z) u⟩
    exact ⟨hersS, his (t + 1) ht hersS⟩
end EBFORCE
