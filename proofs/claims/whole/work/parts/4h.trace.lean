section EBTRACE
variable {L : Nat} {xs : Nat → Int32}
def ec_f3 (c : Nat) : Prop := c = s_flights ∨ c = s_flights_trace
def ec_f6 (c : Nat) : Prop := ec_f5 c ∨ c = s_flights_trace
theorem ec_f6_s (c : Nat) (z : ec_f6 c) : ec_fs c := by
  rcases z with z | rfl
  · exact ec_f5_s c z
  · unfold ec_fs eb_ix s_flights_trace; omega
theorem ec_f3_6 (c : Nat) (z : ec_f3 c) : ec_f6 c := by
  rcases z with rfl | rfl
  · exact Or.inl (Or.inr (Or.inl rfl))
  · exact Or.inr rfl
theorem ec_f3_V (c : Nat) (z : eb_isV c) : ¬ ec_f3 c := by
  rintro (rfl | rfl)
  · unfold eb_isV eb_ix s_flights at z; omega
  · unfold eb_isV eb_ix s_flights_trace at z; omega
theorem C_tt {d : Nat} {h : eb_H} {Q : Option Value → eb_H → Prop} {N found : Nat} {ord pp pw : Nat → Nat} {g : Nat → Nat → Option Nat} {s0 t : Nat} (b : ec_BI g s0 N found ord pp pw t) (hN : N ≤ 1024) (so : ec_SO h found ord pp pw) (es : (if (¬ ((((16 : Int32) * (eb_I h s_flights_state 1)) + (eb_I h s_flights_state 0)) < 0)) ∧ (¬ ((1024 : Int32) ≤ (((16 : Int32) * (eb_I h s_flights_state 1)) + (eb_I h s_flights_state 0)))) then ((16 : Int32) * (eb_I h s_flights_state 1)) + (eb_I h s_flights_state 0) else 0 : Int32) = nI (ec_cd s0)) (K : Nat) (hK : K < found) (D : Nat) (d1 : D ≤ K) (d2 : ec_ch pp K D = 0) (d3 : ∀ j, j < D → 1 ≤ ec_ch pp K j) (d4 : ∀ j, j ≤ D → ec_ch pp K j ≤ K) (ko : eb_KO h) (q : ∀ h', ec_fr ec_f3 h h' → eb_I h' s_flights 2 = eb_I h s_flights 2 → eb_I h' s_flights 5 = nI D → (∀ j, j < D → eb_I h' s_flights_trace (1023 - j) = nI (pw (ec_ch pp K j))) → eb_I h' s_flights 3 = nI (ec_bsn (fun c => ∃ j, j < D ∧ ord (ec_ch pp K j) / 64 = c) 16) → Q none h') : eb_Ct (d + 2) 14 [.ref s_flights, .int (nI (ec_cd (ord K)))] h Q := by
  have fle := b.le
  have key : ∀ (m j : Nat) (g' : eb_H) (S : Nat), j + m = D → ec_fr ec_f3 h g' → eb_I g' s_flights 2 = eb_I h s_flights 2 → eb_I g' s_flights 5 = nI j → eb_I g' s_flights 3 = nI S → S < 2 ^ 16 → (∀ i, i < 16 → (S.testBit i = true ↔ ∃ j', j' < j ∧ ord (ec_ch pp K j') / 64 = i)) → (∀ j', j' < j → eb_I g' s_flights_trace (1023 - j') = nI (pw (ec_ch pp K j'))) → eb_Sn (d + 2) m_X1_traceTo h 17 [(0, .ref s_flights), (2, .int (nI (ec_cd s0))), (3, .int (nI (ec_cd (ord (ec_ch pp K j)))))] [] g' Q := by
    intro m
    induction m with
    | zero =>
      intro j g' S hj F e2 e5 e3 hS bits tr
      have hj : j = D := by omega
      subst hj
      have fin : Q none g' := by
        refine q g' F e2 e5 tr ?_
        rw [e3, ec_bsn_u (P := fun c => ∃ j', j' < j ∧ ord (ec_ch pp K j') / 64 = c) hS bits]
      refine b_X1_traceTo_17 (d := d) _ _ (F.ko ko) ⟨fun _ => fin, fun _ => ⟨fun _ => fin, fun _ => ⟨fun _ => fin, fun z => absurd ?_ z⟩⟩⟩
      rw [d2, b.1.2]
    | succ m ih =>
      intro j g' S hj F e2 e5 e3 hS bits tr
      have x1 := d3 j (by omega)
      have x2 := d4 j (by omega)
      have on := b.2.1 (ec_ch pp K j) (by omega)
      obtain ⟨c1, c2, c3, _⟩ := b.2.2.2.1 (ec_ch pp K j) x1 (by omega)
      have on1 := b.2.1 (ec_ch pp K (j + 1)) (by show pp (ec_ch pp K j) < found; omega)
      have cl := ec_cd_lt (show ord (ec_ch pp K j) < 1024 by omega)
      have cl1 := ec_cd_lt (show ord (ec_ch pp K (j + 1)) < 1024 by omega)
      have ne : ¬ nI (ec_cd (ord (ec_ch pp K j))) = nI (ec_cd s0) := fun z => by
        have o0 := b.2.1 0 (by omega)
        rw [← b.1.2, nI_eq (by omega) (by have := ec_cd_lt (show ord 0 < 1024 by omega); omega), ec_cd_inj (by omega) (by omega)] at z
        have := b.2.2.1 _ 0 (by omega) (by omega) z
        omega
      have eo : eb_I g' s_flights_origins (ec_cd (ord (ec_ch pp K j))) = nI (4 * ec_cd (ord (ec_ch pp K (j + 1))) + pw (ec_ch pp K j)) := by
        rw [F.2.2 _ (by unfold ec_f3; decide)]
        exact so.2.2.2.2 _ x1 (by omega)
      have p16 : (2 : Nat) ^ (ord (ec_ch pp K j) / 64) < 2 ^ 16 := wb_lt2 (by omega)
      have ev : nI S ||| ((1 : Int32) <<< ((nI (ec_cd (ord (ec_ch pp K j))) &&& 15) &&& 31)) = nI (S ||| 2 ^ (ord (ec_ch pp K j) / 64)) := by
        have := (ec_c4 (c := ord (ec_ch pp K j) / 64) (e := ord (ec_ch pp K j) % 64) (by omega) (by omega)).1
        unfold ec_cd
        rw [this, ec_shl1 (by omega), ec_or (by omega) (by omega)]
      refine b_X1_traceTo_17 (d := d) _ _ (F.ko ko) ?_
      rw [e5, e3, ev]
      refine ⟨fun z => absurd z (nI_ge (a := j) (b := 1024) (by omega) (by omega)), fun _ => ⟨fun z => absurd ⟨nI_pos (by omega), nI_ge (a := ec_cd (ord (ec_ch pp K j))) (b := 1024) cl (by omega)⟩ z, fun _ => ⟨fun z => absurd z ne, fun _ => ?_⟩⟩⟩
      have F1 : ec_fr ec_f3 h (eb_sI g' s_flights 3 (nI (S ||| 2 ^ (ord (ec_ch pp K j) / 64)))) := F.sI (Or.inl rfl)
      have f12 : eb_I (eb_sI g' s_flights 3 (nI (S ||| 2 ^ (ord (ec_ch pp K j) / 64)))) s_flights 2 = eb_I h s_flights 2 := by rw [eb_I_sI, if_neg (by decide)]; exact e2
      have f13 : eb_I (eb_sI g' s_flights 3 (nI (S ||| 2 ^ (ord (ec_ch pp K j) / 64)))) s_flights 3 = nI (S ||| 2 ^ (ord (ec_ch pp K j) / 64)) := eb_I_sI'
      have f15 : eb_I (eb_sI g' s_flights 3 (nI (S ||| 2 ^ (ord (ec_ch pp K j) / 64)))) s_flights 5 = nI j := by rw [eb_I_sI, if_neg (by decide)]; exact e5
      have f1o : eb_I (eb_sI g' s_flights 3 (nI (S ||| 2 ^ (ord (ec_ch pp K j) / 64)))) s_flights_origins (ec_cd (ord (ec_ch pp K j))) = nI (4 * ec_cd (ord (ec_ch pp K (j + 1))) + pw (ec_ch pp K j)) := by rw [eb_I_sIn (by decide)]; exact eo
      have f1t : eb_I (eb_sI g' s_flights 3 (nI (S ||| 2 ^ (ord (ec_ch pp K j) / 64)))) s_flights_trace = eb_I g' s_flights_trace := eb_I_sIn (by decide)
      generalize eb_sI g' s_flights 3 (nI (S ||| 2 ^ (ord (ec_ch pp K j) / 64))) = g1 at F1 f12 f13 f15 f1o f1t ⊢
      have er : (nI (4 * ec_cd (ord (ec_ch pp K (j + 1))) + pw (ec_ch pp K j)) - nI (4 * ec_cd (ord (ec_ch pp K (j + 1))) + pw (ec_ch pp K j)) / 4 * 4).toInt8.toInt32.toInt8.toInt32 = nI (pw (ec_ch pp K j)) := by
        have : nI (4 * ec_cd (ord (ec_ch pp K (j + 1))) + pw (ec_ch pp K j)) - nI (4 * ec_cd (ord (ec_ch pp K (j + 1))) + pw (ec_ch pp K j)) / 4 * 4 = nI ((4 * ec_cd (ord (ec_ch pp K (j + 1))) + pw (ec_ch pp K j)) % 4) := pk_rem (d := 4) (by omega) (by omega) (by omega)
        rw [this, show (4 * ec_cd (ord (ec_ch pp K (j + 1))) + pw (ec_ch pp K j)) % 4 = pw (ec_ch pp K j) by omega]
        exact ec_v8 _ c2
      have ed : nI (4 * ec_cd (ord (ec_ch pp K (j + 1))) + pw (ec_ch pp K j)) / 4 = nI (ec_cd (ord (ec_ch pp K (j + 1)))) := by
        have : nI (4 * ec_cd (ord (ec_ch pp K (j + 1))) + pw (ec_ch pp K j)) / 4 = nI ((4 * ec_cd (ord (ec_ch pp K (j + 1))) + pw (ec_ch pp K j)) / 4) := pk_div (d := 4) (by omega) (by omega) (by omega)
        rw [this, show (4 * ec_cd (ord (ec_ch pp K (j + 1))) + pw (ec_ch pp K j)) / 4 = ec_cd (ord (ec_ch pp K (j + 1))) by omega]
      have e1023 : (1023 : Int32) - nI j = nI (1023 - j) := pk_sub (a := 1023) (by omega)
      rw [f15, e1023, eb_cln (n := ec_cd (ord (ec_ch pp K j))) (by omega), f1o, er, eb_cln (n := 1023 - j) (by omega)]
      refine ⟨vp_in_nI cl (by omega), vp_in_nI (by omega) (by omega), vp_in_nI cl (by omega), ?_⟩
      have F2 : ec_fr ec_f3 h (eb_sI g1 s_flights_trace (1023 - j) (nI (pw (ec_ch pp K j)))) := F1.sI (Or.inr rfl)
      have f2f : eb_I (eb_sI g1 s_flights_trace (1023 - j) (nI (pw (ec_ch pp K j)))) s_flights = eb_I g1 s_flights := eb_I_sIn (by decide)
      have f2o : eb_I (eb_sI g1 s_flights_trace (1023 - j) (nI (pw (ec_ch pp K j)))) s_flights_origins = eb_I g1 s_flights_origins := eb_I_sIn (by decide)
      have f2t : ∀ j', j' < j + 1 → eb_I (eb_sI g1 s_flights_trace (1023 - j) (nI (pw (ec_ch pp K j)))) s_flights_trace (1023 - j') = nI (pw (ec_ch pp K j')) := fun j' hj' => by
        rw [eb_I_sI]
        by_cases e : j' = j
        · rw [if_pos (by rw [e]), e]
        · rw [if_neg (by omega), f1t]; exact tr j' (by omega)
      generalize eb_sI g1 s_flights_trace (1023 - j) (nI (pw (ec_ch pp K j))) = g2 at F2 f2f f2o f2t ⊢
      rw [f2o, f1o, ed, f2f, f15, nI_1]
      refine ih (j + 1) _ (S ||| 2 ^ (ord (ec_ch pp K j) / 64)) (by omega) (F2.sI (Or.inl rfl)) ?_ eb_I_sI' ?_ (Nat.or_lt_two_pow hS p16) (fun i hi => ?_) (fun j' hj' => ?_)
      · rw [eb_I_sI, if_neg (by decide), f2f]; exact f12
      · rw [eb_I_sI, if_neg (by decide), f2f]; exact f13
      · rw [Nat.testBit_or, Nat.testBit_two_pow, Bool.or_eq_true, bits i hi, decide_eq_true_iff]
        constructor
        · rintro (⟨j', u1, u2⟩ | u)
          · exact ⟨j', by omega, u2⟩
          · exact ⟨j, by omega, u⟩
        · rintro ⟨j', u1, u2⟩
          by_cases e : j' = j
          · rw [e] at u2; exact Or.inr u2
          · exact Or.inl ⟨j', by omega, u2⟩
      · rw [eb_I_sIn (by decide)]
        exact f2t j' hj'
  refine T_X1_traceTo (d := d) _ ko ?_
  rw [es]
  refine key D 0 _ 0 (by omega) ((ec_fr.rfl.sI (Or.inl rfl)).sI (Or.inl rfl)) ?_ eb_I_sI' ?_ (by omega) (fun i hi => ?_) (fun j' hj' => absurd hj' (by omega))
  · rw [eb_I_sI, if_neg (by decide), eb_I_sI, if_neg (by decide)]
  · rw [eb_I_sI, if_neg (by decide), eb_I_sI, if_pos rfl]
    rfl
  · rw [Nat.zero_testBit]
    constructor
    · intro z; cases z
    · rintro ⟨x, y, _⟩; omega
/-- the class: come to a goal, soonest; what is traced then -/
theorem C_tc {d : Nat} {h : eb_H} {Q : Option Value → eb_H → Prop} {V : eb_Va} {s : eb_St} (ok : eb_okV V) (os : eb_okS V s) (D : Nat) (hD : D < 65536) (fl : ec_FL V s D h) (c a b : Nat) (hc : c < 16) (ha : a < 64) (hb : b < 64) (ko : eb_KO h) (q1 : ∀ h', ec_fr ec_f6 h h' → ec_FL V s D h' → (∀ m, ec_rc (ec_g V s D) (64 * s.b + s.e) m → ¬ ec_goal c a b m) → Q (some (.int (-1))) h') (q2 : ∀ h' D' st wy, ec_fr ec_f6 h h' → ec_FL V s D h' → ec_tr (ec_g V s D) (64 * s.b + s.e) (64 * (V.R * V.W)) (ec_goal c a b) D' st wy → eb_I h' s_flights 5 = nI D' → (∀ j, j < D' → eb_I h' s_flights_trace (1023 - j) = nI (wy j)) → eb_I h' s_flights 3 = nI (ec_bsn (fun c => ∃ j, j < D' ∧ st j / 64 = c) 16) → Q (some (.int (nI D'))) h') : eb_Ct (d + 7) 12 [.ref s_flights, .int (nI c), .int (nI a), .int (nI b)] h Q := by
  obtain ⟨r1, r2, r3, r4, r5, r6, r7, r8, r9, r10, _⟩ := ok.RW
  obtain ⟨n1, n2, n3, n4, n5, n6, n7⟩ := os.N ok
  refine T_X1_traceComing (d := d + 5) _ _ _ ko (C_spread (d := d) ok os D hD fl ko (fun h1 found ord pp pw F1 f1 b1 so => ⟨rfl, F1.ko ko, ?_⟩))
  have ko1 := F1.ko ko
  have fle := b1.le
  have F1' : ec_fr ec_f6 h h1 := F1.weak (fun c z => Or.inl z)
  have ec : (16 : Int32) * (eb_I h1 s_flights_state 1) + (eb_I h1 s_flights_state 0) = nI (16 * s.e + s.b) := by
    rw [f1.2.1.2.1, f1.2.1.1, n1, n2, show (16 : Int32) * nI s.e = nI (16 * s.e) from pk_mul 16 _, nI_add]
  have cs : ec_cd (64 * s.b + s.e) = 16 * s.e + s.b := by
    unfold ec_cd
    rw [(ec_sq n5).1, (ec_sq n5).2]
  have key : ∀ (m i : Nat), i + m = found → (∀ j, j < i → ¬ ec_goal c a b (ord j)) → eb_Sn (d + 7) m_X1_traceComing h 7 [(0, .ref s_flights), (1, .int (nI c)), (2, .int (nI a)), (3, .int (nI b)), (4, .int (nI i))] [] h1 Q := by
    intro m
    induction m with
    | zero =>
      intro i hi nG
      refine b_X1_traceComing_7 (d := d + 5) _ _ _ _ ko1 ?_
      rw [so.1]
      refine ⟨fun _ => q1 h1 F1' f1 (fun m hm => ?_), fun z => absurd (nI_le (by omega) (by omega)) z⟩
      obtain ⟨k, hk, rfl⟩ := (b1.rc (Nat.le_refl _) m).mp hm
      exact nG k (by omega)
    | succ m ih =>
      intro i hi nG
      have on := b1.2.1 i (by omega)
      refine b_X1_traceComing_7 (d := d + 5) _ _ _ _ ko1 ?_
      rw [so.1, eb_cln (n := i) (by omega), so.2.1 i (by omega), ec_glX (by omega) hc ha hb, nI_1]
      refine ⟨fun z => absurd z (nI_ge (by omega) (by omega)), fun _ => ⟨fun z => absurd z (nI_ge (a := i) (b := 1024) (by omega) (by omega)), fun _ => ⟨vp_in_nI (by omega) (by omega), fun z => ⟨vp_in_nI (by omega) (by omega), ?_⟩, fun z => ih (i + 1) (by omega) (fun j hj => ?_)⟩⟩⟩
      · obtain ⟨D', d1, d2, d3, d4⟩ := ec_ch_ex pp i (fun k x1 x2 => (b1.2.2.2.1 k x1 (by omega)).1)
        have tr := b1.tr (Nat.le_refl _) (G := ec_goal c a b) (K := i) (by omega) z nG d1 d2 d3 d4
        refine C_tt (d := d + 4) b1 (by omega) so ?_ i (by omega) D' d1 d2 d3 d4 ko1 (fun h2 F2 e2 e5 et e3 => ⟨rfl, F2.ko ko1, ?_⟩)
        · rw [ec, cs]
          exact if_pos ⟨nI_pos (by omega), nI_ge (a := 16 * s.e + s.b) (b := 1024) (by omega) (by omega)⟩
        · rw [e5]
          exact q2 h2 D' _ _ (F1'.trans (F2.weak ec_f3_6)) (f1.keep F2 ec_f3_V (by unfold ec_f3; decide) (by unfold ec_f3; decide) e2 (by unfold ec_f3; decide)) tr e5 et e3
      · by_cases e : j = i
        · rw [e]; exact z
        · exact nG j (by omega)
  exact key found 0 (by omega) (fun j hj => absurd hj (by omega))
end EBTRACE
