section EBTAPE
variable {L : Nat} {xs : Nat → Int32}
/-- the class's tape: the token that begins behind p, and a fault -/
def ee_XT (h : eb_H) (tx : Nat → Nat) (n p : Nat) (F : Option (Int32 × Int32)) : Prop := ee_TX h tx n ∧ eb_I h s_tape 3 = nI (ee_b tx n p) ∧ eb_I h s_tape 4 = nI (ee_e tx n p) ∧ eb_I h s_tape 5 = nI (ee_so tx n (ee_b tx n p)) ∧ (ee_so tx n (ee_b tx n p) = 2 → eb_I h s_tape 6 = nI (ee_vn tx (ee_b tx n p) (ee_e tx n p - ee_b tx n p))) ∧ (match F with
  | none => eb_I h s_tape 7 = 0 ∧ eb_I h s_tape 8 = -1
  | some x => eb_I h s_tape 7 = x.1 ∧ eb_I h s_tape 8 = x.2 ∧ x.1 ≠ 0)
/-- a token that is none -/
def ee_bad (tx : Nat → Nat) (n p : Nat) : Bool := decide (ee_so tx n (ee_b tx n p) = 5) || (decide (ee_so tx n (ee_b tx n p) = 2) && decide (3 < ee_e tx n p - ee_b tx n p))
def ee_nf (tx : Nat → Nat) (n p : Nat) : Option (Int32 × Int32) := if ee_bad tx n p = true then some (1, nI (ee_b tx n p)) else none
/-- only the tape's ints, and not how many are fed -/
def ee_ft (h h' : eb_H) : Prop := ec_fr (fun c => c = s_tape) h h' ∧ eb_I h' s_tape 1 = eb_I h s_tape 1
theorem ee_ft.rfl {h : eb_H} : ee_ft h h := ⟨ec_fr.rfl, Eq.refl _⟩
theorem ee_ft.trans {h h1 h2 : eb_H} (a : ee_ft h h1) (b : ee_ft h1 h2) : ee_ft h h2 := ⟨a.1.trans b.1, b.2.trans a.2⟩
theorem ee_ft.sI {h h1 : eb_H} (a : ee_ft h h1) {k : Nat} {v : Int32} (hk : 1 ≠ k) : ee_ft h (eb_sI h1 s_tape k v) := ⟨a.1.sI (Eq.refl _), by rw [eb_I_sI, if_neg hk]; exact a.2⟩
theorem ee_TX.sI {h : eb_H} {tx : Nat → Nat} {n k : Nat} {v : Int32} (t : ee_TX h tx n) (hk : 2 ≠ k) : ee_TX (eb_sI h s_tape k v) tx n := ⟨by rw [eb_I_sIn (by decide)]; exact t.1, by rw [eb_I_sI, if_neg hk]; exact t.2⟩
theorem C_fl {d : Nat} {h : eb_H} {Q : Option Value → eb_H → Prop} {tx : Nat → Nat} {n p : Nat} {F : Option (Int32 × Int32)} (t : ee_XT h tx n p F) (c : Int32) (hc : c ≠ 0) (ko : eb_KO h) (q : ∀ h', ee_ft h h' → ee_XT h' tx n p (match F with
    | none => some (c, nI (ee_b tx n p))
    | some x => some x) → Q none h') : eb_Ct d 68 [.ref s_tape, .int c] h Q := by
  obtain ⟨t1, t2, t3, t4, t5, t6⟩ := t
  cases F with
  | none =>
    refine T_X7_fail _ ko ⟨fun _ => q _ ((ee_ft.rfl.sI (by decide)).sI (by decide)) ⟨(t1.sI (by decide)).sI (by decide), ?_, ?_, ?_, fun z => ?_, ?_, ?_, hc⟩, fun z => absurd t6.1 z⟩
    · rw [eb_I_sI, if_neg (by decide), eb_I_sI, if_neg (by decide)]; exact t2
    · rw [eb_I_sI, if_neg (by decide), eb_I_sI, if_neg (by decide)]; exact t3
    · rw [eb_I_sI, if_neg (by decide), eb_I_sI, if_neg (by decide)]; exact t4
    · rw [eb_I_sI, if_neg (by decide), eb_I_sI, if_neg (by decide)]; exact t5 z
    · rw [eb_I_sI, if_neg (by decide), eb_I_sI, if_pos rfl]
    · rw [eb_I_sI, if_pos rfl, eb_I_sI, if_neg (by decide)]; exact t2
  | some x => exact T_X7_fail _ ko ⟨fun z => absurd (t6.1.symm.trans z) t6.2.2, fun _ => q h ee_ft.rfl ⟨t1, t2, t3, t4, t5, t6⟩⟩
theorem ee_dig {x c : Nat} (hc : 48 ≤ c) : (10 : Int32) * nI x + nI c - 48 = nI (10 * x + (c - 48)) := by
  rw [show (10 : Int32) * nI x = nI (10 * x) from pk_mul 10 x, nI_add]
  have : nI (10 * x + c) - nI 48 = nI (10 * x + c - 48) := pk_sub (by omega)
  rw [show 10 * x + (c - 48) = 10 * x + c - 48 by omega]
  exact this
theorem ee_i8 : ∀ c, 48 ≤ c → c ≤ 57 → (nI c).toInt8.toInt32 = nI c := by
  intro c h1 h2
  have key : ∀ c, c < 58 → (nI c).toInt8.toInt32 = nI c := by decide +kernel
  exact key c (by omega)
theorem ee_so2 {tx : Nat → Nat} {n p : Nat} (h : ee_so tx n p = 2) : p < n ∧ 48 ≤ tx p ∧ tx p ≤ 57 := by
  have pn : p < n := by
    refine Classical.byContradiction fun z => ?_
    rw [ee_so_0 tx n p (by omega)] at h
    omega
  refine ⟨pn, ?_⟩
  unfold ee_so at h
  rw [if_pos pn] at h
  unfold ee_sc at h
  by_cases a1 : tx p = 10 ∨ tx p = 32
  · rw [if_pos a1] at h; omega
  · rw [if_neg a1] at h
    by_cases a2 : 97 ≤ tx p ∧ tx p ≤ 122
    · rw [if_pos a2] at h; omega
    · rw [if_neg a2] at h
      by_cases a3 : 48 ≤ tx p ∧ tx p ≤ 57
      · exact a3
      · rw [if_neg a3] at h
        split at h <;> omega
theorem C_nah {d : Nat} {h : eb_H} {Q : Option Value → eb_H → Prop} {tx : Nat → Nat} {n b e : Nat} (hn : n ≤ 900) (t : ee_TX h tx n) (hb : b ≤ e) (he : e ≤ n) (e3 : eb_I h s_tape 3 = nI b) (e4 : eb_I h s_tape 4 = nI e) (dg : ∀ i, b ≤ i → i < e → ee_so tx n i = 2) (ko : eb_KO h) (q : Q (some (.int (nI (ee_vn tx b (e - b))))) h) : eb_Ct (d + 1) 71 [.ref s_tape] h Q := by
  have key : ∀ (m i : Nat), i + m = e → b ≤ i → eb_Sn (d + 1) m_X7_numberAtHand h 11 [(0, .ref s_tape), (1, .int (nI (ee_vn tx b (i - b)))), (2, .int (nI i))] [] h Q := by
    intro m
    induction m with
    | zero =>
      intro i hi hbi
      have hi : i = e := by omega
      subst hi
      refine b_X7_numberAtHand_11 (d := d) _ _ ko ?_
      rw [e4]
      exact ⟨fun _ => q, fun z => absurd (nI_le (Nat.le_refl _) (by omega)) z⟩
    | succ m ih =>
      intro i hi hbi
      obtain ⟨x1, x2, x3⟩ := ee_so2 (dg i hbi (by omega))
      have nx := ih (i + 1) (by omega) (by omega)
      rw [show i + 1 - b = (i - b) + 1 by omega] at nx
      refine b_X7_numberAtHand_11 (d := d) _ _ ko ?_
      rw [e4, eb_cln (n := i) (by omega), t.1 i x1, ee_i8 _ x2 x3, ee_dig x2, nI_1]
      refine ⟨fun z => absurd z (nI_ge (by omega) (by omega)), fun _ => ⟨fun z => absurd z (nI_ge (b := 900) (by omega) (by omega)), fun _ => ⟨vp_in_nI (by omega) (by omega), ?_⟩⟩⟩
      have ev : ee_vn tx b (i - b + 1) = 10 * ee_vn tx b (i - b) + (tx i - 48) := by
        show 10 * ee_vn tx b (i - b) + (tx (b + (i - b)) - 48) = _
        rw [show b + (i - b) = i by omega]
      rw [ev] at nx
      exact nx
  refine T_X7_numberAtHand (d := d) ko ?_
  rw [e3, if_neg (by exact nI_pos (by omega))]
  have := key (e - b) b (by omega) (Nat.le_refl _)
  rw [Nat.sub_self] at this
  exact this
/-- the heap behind a token's sort -/
def ee_G5 (g : eb_H) (y : Int32) : eb_H := eb_sI (eb_sI g s_tape 5 y) s_tape 4 (if (eb_I (eb_sI g s_tape 5 y) s_tape 5) = 0 then eb_I (eb_sI g s_tape 5 y) s_tape 3 else (eb_I (eb_sI g s_tape 5 y) s_tape 3) + 1 : Int32)
theorem C_av {d : Nat} {h : eb_H} {Q : Option Value → eb_H → Prop} {tx : Nat → Nat} {n : Nat} (ht : ∀ j, j < n → tx j < 256) (hn : n ≤ 900) (t : ee_TX h tx n) (p : Nat) (hp : p ≤ n) (e4 : eb_I h s_tape 4 = nI p) (e7 : eb_I h s_tape 7 = 0) (e8 : eb_I h s_tape 8 = -1) (ko : eb_KO h) (q : ∀ h', ee_ft h h' → ee_XT h' tx n p (ee_nf tx n p) → Q none h') : eb_Ct (d + 6) 69 [.ref s_tape] h Q := by
  obtain ⟨b4, bl, bg⟩ := ee_b_n4 tx (p := p) hn
  obtain ⟨el, be, ebg⟩ := ee_eb_le tx (b := ee_b tx n p) hn (by omega)
  obtain ⟨b, hb⟩ : ∃ b, b = ee_b tx n p := ⟨_, rfl⟩
  -- at the end
  have fin : ∀ (g : eb_H), ee_ft h g → ee_TX g tx n → eb_I g s_tape 3 = nI b → eb_I g s_tape 4 = nI (ee_eb tx n b) → eb_I g s_tape 5 = nI (ee_so tx n b) → eb_I g s_tape 7 = 0 → eb_I g s_tape 8 = -1 → ee_so tx n b ≠ 2 → ((eb_I g s_tape 5 = (5 : Int32) → eb_Ct (d + 5) 68 [.ref s_tape, .int 1] g (fun r h4 => r = none ∧ eb_KO h4 ∧ Q none h4)) ∧ (¬ (eb_I g s_tape 5 = (5 : Int32)) → Q none g)) := by
    intro g F tg g3 g4 g5 g7 g8 n2
    have sl := (ee_sc_n0 (tx b)).2
    have s6 : ee_so tx n b < 6 := by
      unfold ee_so
      split <;> omega
    have xt : ee_XT g tx n p none := ⟨tg, by rw [← hb]; exact g3, by unfold ee_e; rw [← hb]; exact g4, by rw [← hb]; exact g5, fun z => by rw [← hb] at z; exact absurd z n2, g7, g8⟩
    rw [g5]
    have e5 : nI (ee_so tx n b) = (5 : Int32) ↔ ee_so tx n b = 5 := nI_eq (b := 5) (by omega) (by omega)
    rw [e5]
    refine ⟨fun z => C_fl xt 1 (by decide) (F.1.ko ko) (fun h' F' x' => ⟨rfl, F'.1.ko (F.1.ko ko), q h' (F.trans F') ?_⟩), fun z => q g F ?_⟩
    · have : ee_nf tx n p = some (1, nI (ee_b tx n p)) := by
        unfold ee_nf ee_bad
        rw [← hb, z]
        rfl
      rw [this]
      exact x'
    · have : ee_nf tx n p = none := by
        unfold ee_nf ee_bad
        rw [← hb]
        have a1 : decide (ee_so tx n b = 5) = false := decide_eq_false z
        have a2 : decide (ee_so tx n b = 2) = false := decide_eq_false n2
        rw [a1, a2]
        rfl
      rw [this]
      exact xt
  -- a word or a number
  have loop : ∀ (m e : Nat) (g : eb_H), (ee_so tx n b = 1 ∨ ee_so tx n b = 2) → n + 1 ≤ e + m → b < e → e ≤ n → ee_run (ee_so tx n) (ee_so tx n b) m e = ee_eb tx n b → ee_ft h g → ee_TX g tx n → eb_I g s_tape 3 = nI b → eb_I g s_tape 4 = nI e → eb_I g s_tape 5 = nI (ee_so tx n b) → eb_I g s_tape 7 = 0 → eb_I g s_tape 8 = -1 → eb_Sn (d + 6) m_X7_advance h 104 [(0, .ref s_tape)] [] g Q := by
    intro m
    induction m with
    | zero => intro e g _ h1 _ h2; omega
    | succ m ih =>
      intro e g h12 h1 hbe hen er F tg g3 g4 g5 g7 g8
      have kg := F.1.ko ko
      have s6 : ee_so tx n b < 6 := by rcases h12 with z | z <;> omega
      have e2 : nI (ee_so tx n b) = (2 : Int32) ↔ ee_so tx n b = 2 := nI_eq (b := 2) (by omega) (by omega)
      have stop : ee_so tx n e ≠ ee_so tx n b → ((¬ (eb_I g s_tape 5 = (2 : Int32)) → ((eb_I g s_tape 5 = (5 : Int32) → eb_Ct (d + 5) 68 [.ref s_tape, .int 1] g (fun r h4 => r = none ∧ eb_KO h4 ∧ Q none h4)) ∧ (¬ (eb_I g s_tape 5 = (5 : Int32)) → Q none g))) ∧ (eb_I g s_tape 5 = (2 : Int32) → eb_Ct (d + 5) 71 [.ref s_tape] g (fun r h7 => ∃ y8, r = some (.int y8) ∧ eb_KO h7 ∧ (((eb_I (eb_sI h7 s_tape 6 y8) s_tape 5) = (5 : Int32) → eb_Ct (d + 5) 68 [.ref s_tape, .int 1] (eb_sI h7 s_tape 6 y8) (fun r h11 => r = none ∧ eb_KO h11 ∧ Q none h11)) ∧ (¬ ((eb_I (eb_sI h7 s_tape 6 y8) s_tape 5) = (5 : Int32)) → ((¬ (eb_I (eb_sI h7 s_tape 6 y8) s_tape 5) = (2 : Int32) → Q none (eb_sI h7 s_tape 6 y8)) ∧ ((eb_I (eb_sI h7 s_tape 6 y8) s_tape 5) = (2 : Int32) → ((((eb_I (eb_sI h7 s_tape 6 y8) s_tape 4) - (eb_I (eb_sI h7 s_tape 6 y8) s_tape 3)) ≤ (3 : Int32) → Q none (eb_sI h7 s_tape 6 y8)) ∧ (¬ (((eb_I (eb_sI h7 s_tape 6 y8) s_tape 4) - (eb_I (eb_sI h7 s_tape 6 y8) s_tape 3)) ≤ (3 : Int32)) → eb_Ct (d + 5) 68 [.ref s_tape, .int 1] (eb_sI h7 s_tape 6 y8) (fun r h16 => r = none ∧ eb_KO h16 ∧ Q none h16)))))))))) := by
        intro ne
        have ee : ee_eb tx n b = e := by rw [← er]; exact ee_run_0 ne (m + 1)
        refine ⟨fun z => fin g F tg g3 (by rw [ee]; exact g4) g5 g7 g8 (fun u => z (by rw [g5]; exact e2.mpr u)), fun z => ?_⟩
        have s2 : ee_so tx n b = 2 := e2.mp (by rw [← g5]; exact z)
        have dg : ∀ i, b ≤ i → i < e → ee_so tx n i = 2 := by
          intro i hi1 hi2
          by_cases eb : i = b
          · rw [eb]; exact s2
          · have e' : ee_eb tx n b = ee_run (ee_so tx n) 2 901 (b + 1) := by
              unfold ee_eb
              rw [if_neg (by omega), if_pos (Or.inr s2), s2]
            rw [ee] at e'
            exact ee_run_in 901 (b + 1) i (by omega) (by omega)
        refine C_nah (d := d + 4) hn tg (by omega) hen g3 g4 dg kg ⟨_, rfl, kg, ?_⟩
        have x3 : eb_I (eb_sI g s_tape 6 (nI (ee_vn tx b (e - b)))) s_tape 3 = nI b := by rw [eb_I_sI, if_neg (by decide)]; exact g3
        have x4 : eb_I (eb_sI g s_tape 6 (nI (ee_vn tx b (e - b)))) s_tape 4 = nI e := by rw [eb_I_sI, if_neg (by decide)]; exact g4
        have x5 : eb_I (eb_sI g s_tape 6 (nI (ee_vn tx b (e - b)))) s_tape 5 = nI 2 := by rw [eb_I_sI, if_neg (by decide), g5, s2]
        have xt : ee_XT (eb_sI g s_tape 6 (nI (ee_vn tx b (e - b)))) tx n p none := by
          refine ⟨tg.sI (by decide), by rw [← hb]; exact x3, by unfold ee_e; rw [← hb, ee]; exact x4, by rw [← hb, s2]; exact x5, fun _ => ?_, ?_, ?_⟩
          · unfold ee_e
            rw [← hb, ee, eb_I_sI']
          · rw [eb_I_sI, if_neg (by decide)]; exact g7
          · rw [eb_I_sI, if_neg (by decide)]; exact g8
        have F6 : ee_ft h (eb_sI g s_tape 6 (nI (ee_vn tx b (e - b)))) := F.sI (by decide)
        rw [x3, x4, x5, pk_sub (by omega)]
        have le3 : nI (e - b) ≤ (3 : Int32) ↔ e - b ≤ 3 := nI_leI (b := 3) (by omega) (by omega)
        rw [le3]
        have bd : ee_bad tx n p = decide (3 < e - b) := by
          unfold ee_bad ee_e
          rw [← hb, ee, s2]
          rfl
        refine ⟨fun z => absurd z (by decide), fun _ => ⟨fun z => absurd rfl z, fun _ => ⟨fun z => q _ F6 ?_, fun z => C_fl xt 1 (by decide) kg (fun h' F' x' => ⟨rfl, F'.1.ko kg, q h' (F6.trans F') ?_⟩)⟩⟩⟩
        · unfold ee_nf
          rw [bd, if_neg (by simp; omega)]
          exact xt
        · unfold ee_nf
          rw [bd, if_pos (by simp; omega)]
          exact x'
      refine b_X7_advance_104 (d := d + 5) kg ?_
      rw [tg.2, g4]
      refine ⟨fun z => ?_, fun z => ?_⟩
      · rw [nI_leI (by omega) (by omega)] at z
        exact stop (by rw [ee_so_0 tx n e z]; rcases h12 with y | y <;> omega)
      · rw [nI_leI (by omega) (by omega)] at z
        refine C_sor (d := d) ht hn tg e (by omega) kg ⟨_, rfl, kg, ?_⟩
        have s6e : ee_so tx n e < 6 := by
          have := (ee_sc_n0 (tx e)).2
          unfold ee_so
          split <;> omega
        have eqs : nI (ee_so tx n e) = eb_I g s_tape 5 ↔ ee_so tx n e = ee_so tx n b := by rw [g5]; exact nI_eq (by omega) (by omega)
        rw [eqs]
        refine ⟨fun y => stop y, fun y => ?_⟩
        rw [g4, nI_1]
        rw [ee_run_1 y] at er
        refine ih (e + 1) _ h12 (by omega) (by omega) (by omega) er (F.sI (by decide)) (tg.sI (by decide)) ?_ eb_I_sI' ?_ ?_ ?_
        · rw [eb_I_sI, if_neg (by decide)]; exact g3
        · rw [eb_I_sI, if_neg (by decide)]; exact g5
        · rw [eb_I_sI, if_neg (by decide)]; exact g7
        · rw [eb_I_sI, if_neg (by decide)]; exact g8
  -- the token's first sign
  have exit : ∀ (g : eb_H), ee_ft h g → ee_TX g tx n → eb_I g s_tape 3 = nI b → eb_I g s_tape 7 = 0 → eb_I g s_tape 8 = -1 → eb_Ct (d + 5) 70 [.ref s_tape, .int (eb_I g s_tape 3)] g (fun r h2 => ∃ y3, r = some (.int y3) ∧ eb_KO h2 ∧ ((eb_I (ee_G5 h2 y3) s_tape 5 = (1 : Int32) → eb_Sn (d + 6) m_X7_advance h 104 [(0, .ref s_tape)] [] (ee_G5 h2 y3) Q) ∧ (¬ (eb_I (ee_G5 h2 y3) s_tape 5 = (1 : Int32)) → ((¬ eb_I (ee_G5 h2 y3) s_tape 5 = (2 : Int32) → ((eb_I (ee_G5 h2 y3) s_tape 5 = (5 : Int32) → eb_Ct (d + 5) 68 [.ref s_tape, .int 1] (ee_G5 h2 y3) (fun r h11 => r = none ∧ eb_KO h11 ∧ Q none h11)) ∧ (¬ (eb_I (ee_G5 h2 y3) s_tape 5 = (5 : Int32)) → Q none (ee_G5 h2 y3)))) ∧ (eb_I (ee_G5 h2 y3) s_tape 5 = (2 : Int32) → eb_Sn (d + 6) m_X7_advance h 104 [(0, .ref s_tape)] [] (ee_G5 h2 y3) Q))))) := by
    intro g F tg g3 g7 g8
    have kg := F.1.ko ko
    rw [g3]
    refine C_sor (d := d) ht hn tg b (by omega) kg ⟨_, rfl, kg, ?_⟩
    have s6 : ee_so tx n b < 6 := by
      have := (ee_sc_n0 (tx b)).2
      unfold ee_so
      split <;> omega
    have i5 : eb_I (eb_sI g s_tape 5 (nI (ee_so tx n b))) s_tape 5 = nI (ee_so tx n b) := eb_I_sI'
    have i3 : eb_I (eb_sI g s_tape 5 (nI (ee_so tx n b))) s_tape 3 = nI b := by rw [eb_I_sI, if_neg (by decide)]; exact g3
    have e0 : nI (ee_so tx n b) = (0 : Int32) ↔ ee_so tx n b = 0 := nI_eq (b := 0) (by omega) (by omega)
    have e1 : nI (ee_so tx n b) = (1 : Int32) ↔ ee_so tx n b = 1 := nI_eq (b := 1) (by omega) (by omega)
    have e2 : nI (ee_so tx n b) = (2 : Int32) ↔ ee_so tx n b = 2 := nI_eq (b := 2) (by omega) (by omega)
    have eG : ee_G5 g (nI (ee_so tx n b)) = eb_sI (eb_sI g s_tape 5 (nI (ee_so tx n b))) s_tape 4 (nI (if ee_so tx n b = 0 then b else b + 1)) := by
      unfold ee_G5
      rw [i5, i3]
      by_cases z : ee_so tx n b = 0
      · rw [if_pos (e0.mpr z), if_pos z]
      · rw [if_neg (fun u => z (e0.mp u)), if_neg z, nI_1]
    rw [eG]
    have FG : ee_ft h (eb_sI (eb_sI g s_tape 5 (nI (ee_so tx n b))) s_tape 4 (nI (if ee_so tx n b = 0 then b else b + 1))) := (F.sI (by decide)).sI (by decide)
    have tG : ee_TX (eb_sI (eb_sI g s_tape 5 (nI (ee_so tx n b))) s_tape 4 (nI (if ee_so tx n b = 0 then b else b + 1))) tx n := (tg.sI (by decide)).sI (by decide)
    have G3 : eb_I (eb_sI (eb_sI g s_tape 5 (nI (ee_so tx n b))) s_tape 4 (nI (if ee_so tx n b = 0 then b else b + 1))) s_tape 3 = nI b := by rw [eb_I_sI, if_neg (by decide)]; exact i3
    have G4 : eb_I (eb_sI (eb_sI g s_tape 5 (nI (ee_so tx n b))) s_tape 4 (nI (if ee_so tx n b = 0 then b else b + 1))) s_tape 4 = nI (if ee_so tx n b = 0 then b else b + 1) := eb_I_sI'
    have G5 : eb_I (eb_sI (eb_sI g s_tape 5 (nI (ee_so tx n b))) s_tape 4 (nI (if ee_so tx n b = 0 then b else b + 1))) s_tape 5 = nI (ee_so tx n b) := by rw [eb_I_sI, if_neg (by decide)]; exact i5
    have G7 : eb_I (eb_sI (eb_sI g s_tape 5 (nI (ee_so tx n b))) s_tape 4 (nI (if ee_so tx n b = 0 then b else b + 1))) s_tape 7 = 0 := by rw [eb_I_sI, if_neg (by decide), eb_I_sI, if_neg (by decide)]; exact g7
    have G8 : eb_I (eb_sI (eb_sI g s_tape 5 (nI (ee_so tx n b))) s_tape 4 (nI (if ee_so tx n b = 0 then b else b + 1))) s_tape 8 = -1 := by rw [eb_I_sI, if_neg (by decide), eb_I_sI, if_neg (by decide)]; exact g8
    generalize eb_sI (eb_sI g s_tape 5 (nI (ee_so tx n b))) s_tape 4 (nI (if ee_so tx n b = 0 then b else b + 1)) = G at FG tG G3 G4 G5 G7 G8 ⊢
    have wd : (ee_so tx n b = 1 ∨ ee_so tx n b = 2) → eb_Sn (d + 6) m_X7_advance h 104 [(0, .ref s_tape)] [] G Q := by
      intro z
      have zn : ee_so tx n b ≠ 0 := by omega
      have bn : b < n := by
        refine Classical.byContradiction fun u => zn (ee_so_0 tx n b (by omega))
      rw [if_neg zn] at G4
      refine loop 901 (b + 1) G z (by omega) (by omega) (by omega) ?_ FG tG G3 G4 G5 G7 G8
      unfold ee_eb
      rw [if_neg zn, if_pos z]
    rw [G5, e1, e2]
    refine ⟨fun z => wd (Or.inl z), fun z => ⟨fun z2 => ?_, fun z2 => wd (Or.inr z2)⟩⟩
    have := fin G FG tG G3 (by
      rw [G4]
      unfold ee_eb
      by_cases y : ee_so tx n b = 0
      · rw [if_pos y, if_pos y]
      · rw [if_neg y, if_neg y, if_neg (by omega)]) G5 G7 G8 z2
    rw [G5] at this
    exact this
  -- blanks
  have blanks : ∀ (m i : Nat) (g : eb_H), n + 1 ≤ i + m → i ≤ n → ee_run (ee_so tx n) 4 m i = b → ee_ft h g → ee_TX g tx n → eb_I g s_tape 3 = nI i → eb_I g s_tape 7 = 0 → eb_I g s_tape 8 = -1 → eb_Sn (d + 6) m_X7_advance h 16 [(0, .ref s_tape)] [] g Q := by
    intro m
    induction m with
    | zero => intro i g h1 h2; omega
    | succ m ih =>
      intro i g h1 h2 er F tg g3 g7 g8
      have kg := F.1.ko ko
      have s6 : ee_so tx n i < 6 := by
        have := (ee_sc_n0 (tx i)).2
        unfold ee_so
        split <;> omega
      have e4' : nI (ee_so tx n i) = (4 : Int32) ↔ ee_so tx n i = 4 := nI_eq (b := 4) (by omega) (by omega)
      have le : eb_I g s_tape 2 ≤ eb_I g s_tape 3 ↔ n ≤ i := by
        rw [tg.2, g3]
        exact nI_leI (by omega) (by omega)
      have stop : ee_so tx n i ≠ 4 → b = i := fun z => by rw [← er]; exact ee_run_0 z (m + 1)
      refine b_X7_advance_16 (d := d + 5) kg ⟨fun z => ?_, fun z => ?_⟩
      · have eb := stop (by rw [ee_so_0 tx n i (le.mp z)]; decide)
        exact exit g F tg (by rw [eb]; exact g3) g7 g8
      · rw [g3]
        refine C_sor (d := d) ht hn tg i (by omega) kg ⟨_, rfl, kg, ?_⟩
        rw [e4']
        refine ⟨fun y => ?_, fun y => ?_⟩
        · exact exit g F tg (by rw [stop y]; exact g3) g7 g8
        · rw [g3, nI_1]
          rw [ee_run_1 y] at er
          have inn : i < n := by
            refine Classical.byContradiction fun u => ?_
            rw [ee_so_0 tx n i (by omega)] at y
            omega
          refine ih (i + 1) _ (by omega) (by omega) er (F.sI (by decide)) (tg.sI (by decide)) eb_I_sI' ?_ ?_
          · rw [eb_I_sI, if_neg (by decide)]; exact g7
          · rw [eb_I_sI, if_neg (by decide)]; exact g8
  refine T_X7_advance (d := d + 5) ko ⟨fun _ => ?_, fun z => absurd e7 z⟩
  rw [e4]
  refine blanks 901 p _ (by omega) hp hb.symm (ee_ft.rfl.sI (by decide)) (t.sI (by decide)) eb_I_sI' ?_ ?_
  · rw [eb_I_sI, if_neg (by decide)]; exact e7
  · rw [eb_I_sI, if_neg (by decide)]; exact e8
/-- the next token, but not past a fault -/
def ee_nx (tx : Nat → Nat) (n p : Nat) (F : Option (Int32 × Int32)) : Nat × Option (Int32 × Int32) := match F with
  | none => (ee_e tx n p, ee_nf tx n (ee_e tx n p))
  | some x => (p, some x)
theorem C_adv {d : Nat} {h : eb_H} {Q : Option Value → eb_H → Prop} {tx : Nat → Nat} {n p : Nat} {F : Option (Int32 × Int32)} (ht : ∀ j, j < n → tx j < 256) (hn : n ≤ 900) (hp : p ≤ n) (t : ee_XT h tx n p F) (ko : eb_KO h) (q : ∀ h', ee_ft h h' → ee_XT h' tx n (ee_nx tx n p F).1 (ee_nx tx n p F).2 → Q none h') : eb_Ct (d + 6) 69 [.ref s_tape] h Q := by
  cases F with
  | none => exact C_av (d := d) ht hn t.1 (ee_e tx n p) (ee_e_le tx hn hp).1 t.2.2.1 t.2.2.2.2.2.1 t.2.2.2.2.2.2 ko q
  | some x => exact T_X7_advance (d := d + 5) ko ⟨fun z => absurd (t.2.2.2.2.2.1.symm.trans z) t.2.2.2.2.2.2.2, fun _ => q h ee_ft.rfl t⟩
end EBTAPE
