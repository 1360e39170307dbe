section EBDEED3
def ec_set (s : eb_St) (k : Nat) (v : Int32) : eb_St := fun j => if j = k then v else s j
theorem ec_set_th {s : eb_St} {k : Nat} {v : Int32} (j : Nat) : (ec_set s k v).th j = if 5 + j = k then v else s.th j := rfl
theorem PXS.set {h : eb_H} {a : Nat} {s : eb_St} (p : PXS h a s) {k : Nat} (hk : k < 5) (v : Int32) : PXS (eb_sI h a k v) a (ec_set s k v) := by
  obtain ⟨q1, q2, q3, q4, q5, q6, q7⟩ := p
  have f : ∀ j, j < 5 → eb_I h a j = s j → eb_I (eb_sI h a k v) a j = ec_set s k v j := fun j hj z => by
    rw [eb_I_sI, z]; rfl
  refine ⟨f 0 (by omega) q1, f 1 (by omega) q2, f 2 (by omega) q3, f 3 (by omega) q4, f 4 (by omega) q5, q6, fun j hj => ?_⟩
  rw [eb_I_sIn (by omega), ec_set_th, if_neg (by omega)]
  exact q7 j hj
theorem PXS.setT {h : eb_H} {a : Nat} {s : eb_St} (p : PXS h a s) {k : Nat} (v : Int32) : PXS (eb_sI h (a + 524807) k v) a (ec_set s (5 + k) v) := by
  obtain ⟨q1, q2, q3, q4, q5, q6, q7⟩ := p
  have f : ∀ j, j < 5 → eb_I h a j = s j → eb_I (eb_sI h (a + 524807) k v) a j = ec_set s (5 + k) v j := fun j hj z => by
    rw [eb_I_sIn (by omega), z]
    unfold ec_set
    rw [if_neg (by omega)]
  refine ⟨f 0 (by omega) q1, f 1 (by omega) q2, f 2 (by omega) q3, f 3 (by omega) q4, f 4 (by omega) q5, q6, fun j hj => ?_⟩
  rw [eb_I_sI, ec_set_th]
  by_cases e : j = k
  · rw [if_pos e, if_pos (by omega)]
  · rw [if_neg e, if_neg (by omega)]; exact q7 j hj
def ec_po (k : Nat) : Nat := if k < 3 then k else if k = 3 then 19 else if k = 4 then 20 else k - 2
theorem ec_rw_set {s : eb_St} {k q : Nat} {v : Int32} (hk : k < 21) (hq : q < 21) : ec_rw (ec_set s k v) q = if q = ec_po k then v else ec_rw s q := by
  unfold ec_rw ec_set ec_po
  by_cases q3 : q < 3
  · rw [if_pos q3, if_pos q3]
    by_cases k3 : k < 3
    · rw [if_pos k3]
    · rw [if_neg k3, if_neg (by omega)]
      split
      · rw [if_neg (by omega)]
      · split
        · rw [if_neg (by omega)]
        · rw [if_neg (by omega)]
  · rw [if_neg q3, if_neg q3]
    by_cases q19 : q < 19
    · rw [if_pos q19, if_pos q19]
      by_cases k3 : k < 3
      · rw [if_pos k3, if_neg (by omega), if_neg (by omega)]
      · rw [if_neg k3]
        by_cases k4 : k = 3
        · rw [if_pos k4, if_neg (by omega), if_neg (by omega)]
        · rw [if_neg k4]
          by_cases k5 : k = 4
          · rw [if_pos k5, if_neg (by omega), if_neg (by omega)]
          · rw [if_neg k5]
            by_cases e : q + 2 = k
            · rw [if_pos e, if_pos (by omega)]
            · rw [if_neg e, if_neg (by omega)]
    · rw [if_neg q19, if_neg q19]
      by_cases k3 : k < 3
      · rw [if_pos k3, if_neg (by omega), if_neg (by omega)]
      · rw [if_neg k3]
        by_cases k4 : k = 3
        · rw [if_pos k4]
          by_cases e : q = 19
          · rw [if_pos (by omega), if_pos e]
          · rw [if_neg (by omega), if_neg e]
        · rw [if_neg k4]
          by_cases k5 : k = 4
          · rw [if_pos k5]
            by_cases e : q = 20
            · rw [if_pos (by omega), if_pos e]
            · rw [if_neg (by omega), if_neg e]
          · rw [if_neg k5, if_neg (by omega), if_neg (by omega)]
theorem PMS.set {h : eb_H} {o : Nat} {s : eb_St} (p : PMS h o s) {k : Nat} (hk : k < 21) (v : Int32) : PMS (eb_sI h s_m_all (o + ec_po k) v) o (ec_set s k v) := by
  rw [PMS_rw] at p ⊢
  intro q hq
  rw [eb_I_sI, ec_rw_set hk hq]
  by_cases e : q = ec_po k
  · rw [if_pos (by omega), if_pos e]
  · rw [if_neg (by omega), if_neg e]; exact p q hq
/-! a deed, as a tray tells it -/
def ec_dw (V : eb_Va) (s : eb_St) (n : Nat) : Nat := if n < 4 then ec_why V s s.D s.b s.e n else if 100 ≤ n ∧ n < 300 then (if (n - 100) % 100 < V.R * V.W then 0 else 1) else if 300 ≤ n ∧ n < 310 then 0 else if 1000 ≤ n ∧ n < 2000 ∧ (n - 1000) / 10 < V.R * V.W ∧ n % 10 ≤ 6 then 0 else 1
def ec_lg (c : Nat) (s : eb_St) : eb_St := ec_set (ec_set s 0 (nI c)) 1 0
def ec_dr (c : Nat) (s : eb_St) : eb_St := ec_set s 3 (nI (s.D ^^^ 2 ^ c))
def ec_ds (V : eb_Va) (s : eb_St) (n : Nat) : eb_St := if n < 4 then (match ec_nb V.R V.W s.b n with
  | some to => ec_fl V s to
  | none => s) else if n < 200 then ec_lg (n - 100) s else if n < 300 then ec_dr (n - 200) s else if n < 310 then ec_set s 4 (nI (n - 300)) else ec_set s (5 + (n - 1000) / 10) (nI (n % 10))
def ec_xn (x : Int64) : Nat := if x < 0 then 5 else x.toInt.toNat
theorem ec_xn_lN {k : Nat} (h : k < 2 ^ 63) : ec_xn (lN k) = k := by
  unfold ec_xn
  rw [if_neg (by rw [Int64.lt_iff_toInt_lt, pk_lT h, eb_z64]; omega), pk_lT h]
  rfl
theorem ec_okS_set {V : eb_Va} {s : eb_St} (os : eb_okS V s) (k : Nat) (v : Int32) (h0 : k = 0 → 0 ≤ v.toInt ∧ v.toInt < V.rows.toInt * V.cols.toInt) (h1 : k = 1 → 0 ≤ v.toInt ∧ v.toInt < 64) (h3 : k = 3 → 0 ≤ v.toInt ∧ v.toInt < 65536) (h4 : k = 4 → 0 ≤ v.toInt ∧ v.toInt ≤ 9) (h5 : 5 ≤ k → 0 ≤ v.toInt ∧ v.toInt ≤ 6) : eb_okS V (ec_set s k v) := by
  obtain ⟨o1, o2, o3, o4, o5⟩ := os
  refine ⟨?_, ?_, ?_, ?_, fun j hj => ?_⟩
  · show 0 ≤ (if 0 = k then v else s 0).toInt ∧ (if 0 = k then v else s 0).toInt < _
    by_cases e : 0 = k
    · rw [if_pos e]; exact h0 e.symm
    · rw [if_neg e]; exact o1
  · show 0 ≤ (if 1 = k then v else s 1).toInt ∧ (if 1 = k then v else s 1).toInt < _
    by_cases e : 1 = k
    · rw [if_pos e]; exact h1 e.symm
    · rw [if_neg e]; exact o2
  · show 0 ≤ (if 3 = k then v else s 3).toInt ∧ (if 3 = k then v else s 3).toInt < _
    by_cases e : 3 = k
    · rw [if_pos e]; exact h3 e.symm
    · rw [if_neg e]; exact o3
  · show 0 ≤ (if 4 = k then v else s 4).toInt ∧ (if 4 = k then v else s 4).toInt ≤ _
    by_cases e : 4 = k
    · rw [if_pos e]; exact h4 e.symm
    · rw [if_neg e]; exact o4
  · rw [ec_set_th]
    by_cases e : 5 + j = k
    · rw [if_pos e]; exact h5 (by omega)
    · rw [if_neg e]; exact o5 j hj
theorem ec_xor_lt {D c : Nat} (h : D < 65536) (hc : c < 16) : D ^^^ 2 ^ c < 65536 := by
  have : (2 : Nat) ^ c < 2 ^ 16 := wb_lt2 hc
  exact Nat.xor_lt_two_pow (n := 16) h this
theorem ec_ds_ok {V : eb_Va} {s : eb_St} (ok : eb_okV V) (os : eb_okS V s) (n : Nat) (h : ec_dw V s n = 0) : eb_okS V (ec_ds V s n) := by
  obtain ⟨n1, n2, n3, n4, n5, n6, n7⟩ := os.N ok
  obtain ⟨r1, r2, r3, r4, r5, r6, r7, r8, r9, r10, r11, r12, r13⟩ := ok.RW
  have rw1 : V.rows.toInt * V.cols.toInt = ((V.R * V.W : Nat) : Int) := by rw [r12, r13]; rfl
  unfold ec_dw at h
  unfold ec_ds
  by_cases c1 : n < 4
  · rw [if_pos c1] at h ⊢
    unfold ec_why at h
    cases hn : ec_nb V.R V.W s.b n with
    | none => exact os
    | some to => exact ec_fl_ok ok os (ec_nb_lt n4 r6 hn)
  · rw [if_neg c1] at h ⊢
    by_cases c2 : 100 ≤ n ∧ n < 300
    · rw [if_pos c2] at h
      by_cases c3 : (n - 100) % 100 < V.R * V.W
      · by_cases c4 : n < 200
        · rw [if_pos c4]
          have hc : n - 100 < V.R * V.W := by omega
          refine ec_okS_set (ec_okS_set os 0 _ (fun _ => ?_) (fun z => absurd z (by omega)) (fun z => absurd z (by omega)) (fun z => absurd z (by omega)) (fun z => absurd z (by omega))) 1 0 (fun z => absurd z (by omega)) (fun _ => by decide) (fun z => absurd z (by omega)) (fun z => absurd z (by omega)) (fun z => absurd z (by omega))
          rw [nI_toInt (by omega), rw1]
          omega
        · rw [if_neg c4, if_pos c2.2]
          refine ec_okS_set os 3 _ (fun z => absurd z (by omega)) (fun z => absurd z (by omega)) (fun _ => ?_) (fun z => absurd z (by omega)) (fun z => absurd z (by omega))
          have := ec_xor_lt n6 (show n - 200 < 16 by omega)
          rw [nI_toInt (by omega)]
          omega
      · rw [if_neg c3] at h
        exact absurd h (by omega)
    · rw [if_neg c2] at h
      by_cases c3 : 300 ≤ n ∧ n < 310
      · rw [if_neg (by omega), if_neg (by omega), if_pos c3.2]
        refine ec_okS_set os 4 _ (fun z => absurd z (by omega)) (fun z => absurd z (by omega)) (fun z => absurd z (by omega)) (fun _ => ?_) (fun z => absurd z (by omega))
        rw [nI_toInt (by omega)]
        omega
      · rw [if_neg c3] at h
        by_cases c4 : 1000 ≤ n ∧ n < 2000 ∧ (n - 1000) / 10 < V.R * V.W ∧ n % 10 ≤ 6
        · rw [if_neg (by omega), if_neg (by omega), if_neg (by omega)]
          refine ec_okS_set os _ _ (fun z => absurd z (by omega)) (fun z => absurd z (by omega)) (fun z => absurd z (by omega)) (fun z => absurd z (by omega)) (fun _ => ?_)
          rw [nI_toInt (by omega)]
          omega
        · rw [if_neg c4] at h
          exact absurd h (by omega)
/-- the class does a deed -/
def ec_da (a c : Nat) : Prop := ec_19 c ∨ c = a ∨ c = a + 524807
theorem ec_neg : ∀ k, k < 5 → (if (0 : Int32) < (-(-(nI k))) then -(-(nI k)) else 0 : Int32) = nI k := by decide
theorem ec_negp : ∀ k, k < 7 → (if (0 : Int32) < (-(nI k)) then -(nI k) else 0 : Int32) = 0 := by decide
theorem ec_out_why {V : eb_Va} {s : eb_St} {way : Nat} : (ec_why V s s.D s.b s.e way = 0 → ∃ to, ec_nb V.R V.W s.b way = some to ∧ ¬ s.D / 2 ^ to % 2 = 1 ∧ ec_may V s s.b s.e to = true ∧ ec_out V s way = nI (ec_tn V s s.b s.e to)) ∧ (ec_why V s s.D s.b s.e way ≠ 0 → ec_why V s s.D s.b s.e way < 5 ∧ ec_out V s way = -(nI (ec_why V s s.D s.b s.e way)) ∧ ec_out V s way < 0) := by
  unfold ec_why ec_out
  cases hn : ec_nb V.R V.W s.b way with
  | none =>
    dsimp only
    exact ⟨fun z => absurd z (by decide), fun _ => by decide⟩
  | some to =>
    dsimp only
    by_cases hD : s.D / 2 ^ to % 2 = 1
    · rw [if_pos hD, if_pos hD]
      exact ⟨fun z => absurd z (by decide), fun _ => by decide⟩
    · rw [if_neg hD, if_neg hD]
      by_cases hm : ec_may V s s.b s.e to = true
      · rw [if_pos hm, if_pos hm]
        exact ⟨fun _ => ⟨to, rfl, hD, hm, rfl⟩, fun z => absurd rfl z⟩
      · rw [if_neg hm, if_neg hm]
        exact ⟨fun z => absurd z (by decide), fun _ => by decide⟩
theorem C_dd {d : Nat} {h : eb_H} {Q : Option Value → eb_H → Prop} {v a : Nat} {V : eb_Va} {s : eb_St} (p : PXV h v V) (ps : PXS h a s) (ia : eb_isS a) (na : ¬ eb_isV a) (ok : eb_okV V) (os : eb_okS V s) (x : Int64) (ko : eb_KO h)
    (w0 : ∀ h', ec_fr ec_19 h h' → ec_dw V s (ec_xn x) ≠ 0 → Q (some (.int (nI (ec_dw V s (ec_xn x))))) h')
    (w1 : ∀ h', ec_dw V s (ec_xn x) = 0 → PXS h' a (ec_ds V s (ec_xn x)) → ec_fr (ec_da a) h h' → Q (some (.int 0)) h') : eb_Ct (d + 6) 91 [.ref v, .ref a, .long x] h Q := by
  obtain ⟨n1, n2, n3, n4, n5, n6, n7⟩ := os.N ok
  obtain ⟨r1, r2, r3, r4, r5, r6, r7, r8, r9, r10, _⟩ := ok.RW
  have e1 : eb_I h v 0 = nI V.R := p.2.1.trans r1
  have e2 : eb_I h v 1 = nI V.W := p.2.2.1.trans r2
  have has : ∀ c, c < 2 ^ 31 → (((¬ (nI c < 0)) ∧ (¬ (nI V.R * nI V.W ≤ nI c))) ↔ c < V.R * V.W) := fun c hc => by
    rw [pk_mul]
    constructor
    · intro z
      have := z.2
      rw [nI_leI (by omega) hc] at this
      omega
    · intro z
      exact ⟨nI_pos hc, nI_ge z (by omega)⟩
  have dwn : ∀ n, n ≠ 0 → (ec_dw V s (ec_xn x) = n) → Q (some (.int (nI n))) h := fun n hn z => by
    have := w0 h ec_fr.rfl (by rw [z]; exact hn)
    rw [z] at this
    exact this
  by_cases neg : x < 0
  · have xn : ec_xn x = 5 := by unfold ec_xn; rw [if_pos neg]
    have q1 : Q (some (.int 1)) h := dwn 1 (by decide) (by rw [xn]; rfl)
    have n0 : x.toInt < 0 := by rw [Int64.lt_iff_toInt_lt, eb_z64] at neg; exact neg
    have lt : ∀ c : Int64, 0 ≤ c.toInt → x < c := fun c hc => by rw [Int64.lt_iff_toInt_lt]; omega
    refine T_X9_doDeed v a x p.1.1 ia.1 ko (br_t neg (br_t (lt _ (by decide)) (br_t (lt _ (by decide)) (br_t (lt _ (by decide)) (br_t (lt _ (by decide)) q1)))))
  · obtain ⟨k, hk, rfl⟩ := pk_lOf neg
    rw [ec_xn_lN hk] at w0 w1 dwn
    have lt : ∀ c, c < 2 ^ 63 → k < c → lN k < lN c := fun c hc z => (pk_lLT hk hc).mpr z
    have nlt : ∀ c, c < 2 ^ 63 → c ≤ k → ¬ lN k < lN c := fun c hc z y => by rw [pk_lLT hk hc] at y; omega
    have le : ∀ c, c < 2 ^ 63 → c ≤ k → lN c ≤ lN k := fun c hc z => (pk_lLE hc hk).mpr z
    have nle : ∀ c, c < 2 ^ 63 → k < c → ¬ lN c ≤ lN k := fun c hc z y => by rw [pk_lLE hc hk] at y; omega
    have gt : ∀ c, c < 2 ^ 63 → c < k → lN c < lN k := fun c hc z => (pk_lLT hc hk).mpr z
    have ngt : ∀ c, c < 2 ^ 63 → k ≤ c → ¬ lN c < lN k := fun c hc z y => by rw [pk_lLT hc hk] at y; omega
    refine T_X9_doDeed v a (lN k) p.1.1 ia.1 ko (br_f neg ?_)
    rw [lN_i]
    by_cases c4 : k < 4
    · refine br_f (nle 4 (by decide) c4) (C_ms p ps ia na ok os k c4 ko (fun h' F z => ⟨_, rfl, F.ko ko, ?_⟩) (fun h' to hn hD hm eo ps' F => ⟨_, rfl, F.ko ko, ?_⟩))
      · have edw : ec_dw V s k = ec_why V s s.D s.b s.e k := by unfold ec_dw; rw [if_pos c4]
        have wn : ec_why V s s.D s.b s.e k ≠ 0 := fun y => by
          obtain ⟨to, _, _, _, eo⟩ := (ec_out_why (V := V) (s := s) (way := k)).1 y
          rw [eo] at z
          have := ec_tn_le (V := V) (c := s.b) (e := s.e) (n7 to (by have := ec_nb_lt n4 r6 (by assumption); omega)).2
          exact nI_pos (by omega) z
        obtain ⟨b1, b2, _⟩ := (ec_out_why (V := V) (s := s) (way := k)).2 wn
        rw [b2, ec_neg _ b1]
        have := w0 h' F (by rw [edw]; exact wn)
        rw [edw] at this
        exact this
      · have tl := ec_tn_le (V := V) (c := s.b) (e := s.e) (n7 to (by have := ec_nb_lt n4 r6 hn; omega)).2
        rw [ec_negp _ (by omega)]
        refine w1 h' ?_ ?_ (F.weak (fun c z => by
          rcases z with z | z
          · exact Or.inl z
          · exact Or.inr (Or.inl z)))
        · unfold ec_dw ec_why
          rw [if_pos c4, hn]
          dsimp only
          rw [if_neg hD, if_pos hm]
        · unfold ec_ds
          rw [if_pos c4, hn]
          exact ps'
    · refine br_t (le 4 (by decide) (by omega)) ?_
      by_cases c100 : k < 100
      · refine br_t (lt 100 (by decide) c100) (br_t (lt 200 (by decide) (by omega)) (br_t (lt 300 (by decide) (by omega)) (br_t (lt 1000 (by decide) (by omega)) ?_)))
        exact dwn 1 (by decide) (by unfold ec_dw; rw [if_neg (by omega), if_neg (by omega), if_neg (by omega), if_neg (by omega)])
      · refine br_f (nlt 100 (by decide) (by omega)) ?_
        by_cases c200 : k < 200
        · refine br_f (nle 200 (by decide) c200) ?_
          have e : nI k - 100 = nI (k - 100) := pk_sub (b := 100) (by omega)
          rw [e]
          refine T_X9_letGo v a _ p.1.1 ia.1 ko ?_
          rw [e1, e2, has _ (by omega)]
          refine ⟨fun z => ⟨_, rfl, ko, ?_⟩, fun z => ⟨_, rfl, ko, dwn 1 (by decide) ?_⟩⟩
          · refine w1 _ ?_ ?_ ((ec_fr.rfl.sI (Or.inr (Or.inl rfl))).sI (Or.inr (Or.inl rfl)))
            · unfold ec_dw; rw [if_neg c4, if_pos (by omega), if_pos (by omega)]
            · unfold ec_ds; rw [if_neg c4, if_pos c200]
              exact (ps.set (by omega) _).set (by omega) _
          · unfold ec_dw; rw [if_neg c4, if_pos (by omega), if_neg (by omega)]
        · refine br_t (le 200 (by decide) (by omega)) (br_f (nlt 200 (by decide) (by omega)) ?_)
          by_cases c300 : k < 300
          · refine br_f (nle 300 (by decide) c300) ?_
            have e : nI k - 200 = nI (k - 200) := pk_sub (b := 200) (by omega)
            rw [e]
            refine T_X9_turnDrift v a _ p.1.1 ia.1 ko ?_
            rw [e1, e2, has _ (by omega)]
            refine ⟨fun z => ⟨_, rfl, ko, ?_⟩, fun z => ⟨_, rfl, ko, dwn 1 (by decide) ?_⟩⟩
            · have p2 := ec_p2 (j := k - 200) (by omega)
              rw [ps.2.2.2.1, n3, ec_shl1 (by omega), ec_xor (by omega) p2]
              refine w1 _ ?_ ?_ (ec_fr.rfl.sI (Or.inr (Or.inl rfl)))
              · unfold ec_dw; rw [if_neg c4, if_pos (by omega), if_pos (by omega)]
              · unfold ec_ds; rw [if_neg c4, if_neg c200, if_pos c300]
                exact ps.set (by omega) _
            · unfold ec_dw; rw [if_neg c4, if_pos (by omega), if_neg (by omega)]
          · refine br_t (le 300 (by decide) (by omega)) (br_f (nlt 300 (by decide) (by omega)) ?_)
            by_cases c310 : k < 310
            · refine br_f (ngt 309 (by decide) (by omega)) ?_
              have e : nI k - 300 = nI (k - 300) := pk_sub (b := 300) (by omega)
              rw [e]
              refine w1 _ ?_ ?_ (ec_fr.rfl.sI (Or.inr (Or.inl rfl)))
              · unfold ec_dw; rw [if_neg c4, if_neg (by omega), if_pos (by omega)]
              · unfold ec_ds; rw [if_neg c4, if_neg c200, if_neg c300, if_pos c310]
                exact ps.set (by omega) _
            · refine br_t (gt 309 (by decide) (by omega)) ?_
              by_cases c1000 : k < 1000
              · refine br_t (lt 1000 (by decide) c1000) (dwn 1 (by decide) ?_)
                unfold ec_dw; rw [if_neg c4, if_neg (by omega), if_neg (by omega), if_neg (by omega)]
              · refine br_f (nlt 1000 (by decide) (by omega)) ?_
                by_cases c2000 : k < 2000
                · refine br_t (lt 2000 (by decide) c2000) ?_
                  have e : nI k - 1000 = nI (k - 1000) := pk_sub (b := 1000) (by omega)
                  have ed : nI (k - 1000) / 10 = nI ((k - 1000) / 10) := pk_div (d := 10) (by omega) (by omega) (by omega)
                  have em : nI (k - 1000) - nI (k - 1000) / 10 * 10 = nI ((k - 1000) % 10) := pk_rem (d := 10) (by omega) (by omega) (by omega)
                  rw [e, em, ed]
                  refine T_X9_putKind v a _ _ p.1.1 ia.1 ko ?_
                  rw [e1, e2, has _ (by omega)]
                  refine ⟨fun z => ⟨_, rfl, ko, dwn 1 (by decide) ?_⟩, fun z => ⟨fun y => ?_, fun y => ⟨_, rfl, ko, dwn 1 (by decide) ?_⟩⟩⟩
                  · unfold ec_dw; rw [if_neg c4, if_neg (by omega), if_neg (by omega), if_neg (by omega)]
                  · have y : nI ((k - 1000) % 10) ≤ nI 6 := y
                    rw [nI_leI (by omega) (by omega)] at y
                    refine T_X6_putThing a _ _ ia.1 ko ⟨fun u => absurd u (nI_pos (by omega)), fun _ => ⟨_, ps.2.2.2.2.2.1, ia.th.1, fun u => ?_, fun _ => ⟨?_, rfl, ko, _, rfl, ko, ?_⟩⟩⟩
                    · exfalso
                      rw [ia.th.2] at u
                      exact nI_ge (a := (k - 1000) / 10) (b := 16) (by omega) (by omega) u
                    · rw [ia.th.2]; exact vp_in_nI (by omega) (by omega)
                    · rw [eb_cln (by omega)]
                      refine w1 _ ?_ ?_ (ec_fr.rfl.sI (Or.inr (Or.inr rfl)))
                      · unfold ec_dw; rw [if_neg c4, if_neg (by omega), if_neg (by omega), if_pos (by omega)]
                      · unfold ec_ds; rw [if_neg c4, if_neg c200, if_neg c300, if_neg c310, show k % 10 = (k - 1000) % 10 by omega]
                        exact ps.setT _
                  · have y : ¬ nI ((k - 1000) % 10) ≤ nI 6 := y
                    rw [nI_leI (by omega) (by omega)] at y
                    unfold ec_dw; rw [if_neg c4, if_neg (by omega), if_neg (by omega), if_neg (by omega)]
                · refine br_f (nlt 2000 (by decide) (by omega)) (dwn 1 (by decide) ?_)
                  unfold ec_dw; rw [if_neg c4, if_neg (by omega), if_neg (by omega), if_neg (by omega)]
end EBDEED3
