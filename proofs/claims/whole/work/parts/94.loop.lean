set_option maxHeartbeats 4000000 in
theorem eb_loop (I : Nat → eb_H → Prop) (L : Nat) (xs : Nat → Int32) (hL : L ≤ 3072) (hI : ∀ k h, I k h → eb_KO h ∧ eb_XL h = L ∧ eb_X h = xs) (hm : ∀ k h, I k h → I (k + 1) h) (c0 : ∀ (k : Nat) (h : eb_H) (v1 v2 v3 v4 v5 : Int32), k < 512 → I k h → eb_Pr 96 159 [.int v1, .int v2, .int v3, .int v4, .int v5] (I (k + 1)) h) (c1 : ∀ (k : Nat) (h : eb_H) (v1 : Int32), k < 512 → I k h → eb_Pr 97 188 [.int v1] (I (k + 1)) h) (c2 : ∀ (k : Nat) (h : eb_H) (v1 : Int32), k < 512 → I k h → eb_Pr 98 189 [.int v1] (I (k + 1)) h) (c3 : ∀ (k : Nat) (h : eb_H) (v1 v2 : Int32), k < 512 → I k h → eb_Pr 99 201 [.int v1, .int v2] (I (k + 1)) h) (c4 : ∀ (k : Nat) (h : eb_H) (v1 : Int32), k < 512 → I k h → eb_Pr 100 202 [.int v1] (I (k + 1)) h) (c5 : ∀ (k : Nat) (h : eb_H) (v1 : Int32), k < 512 → I k h → eb_Pr 101 204 [.int v1] (I (k + 1)) h) (c6 : ∀ (k : Nat) (h : eb_H) (v1 v2 : Int32), k < 512 → I k h → eb_Pr 102 205 [.int v1, .int v2] (I (k + 1)) h) (c7 : ∀ (k : Nat) (h : eb_H) (v1 : Int32), k < 512 → I k h → eb_Pr 103 212 [.int v1] (I (k + 1)) h) (c8 : ∀ (k : Nat) (h : eb_H) (v1 : Int32), k < 512 → I k h → eb_Pr 104 213 [.int v1] (I (k + 1)) h) (c9 : ∀ (k : Nat) (h : eb_H) (v1 v2 : Int32), k < 512 → I k h → eb_Pr 105 214 [.int v1, .int v2] (I (k + 1)) h) (c10 : ∀ (k : Nat) (h : eb_H) (v1 : Int32), k < 512 → I k h → eb_Pr 106 215 [.int v1] (I (k + 1)) h) (c11 : ∀ (k : Nat) (h : eb_H) (v1 : Int32), k < 512 → I k h → eb_Pr 107 216 [.int v1] (I (k + 1)) h) (c12 : ∀ (k : Nat) (h : eb_H) (v1 : Int32), k < 512 → I k h → eb_Pr 108 217 [.int v1] (I (k + 1)) h) (c13 : ∀ (k : Nat) (h : eb_H) (v1 v2 : Int32), k < 512 → I k h → eb_Pr 109 222 [.int v1, .int v2] (I (k + 1)) h) (c14 : ∀ (k : Nat) (h : eb_H) (v1 : Int32), k < 512 → I k h → eb_Pr 110 223 [.int v1] (I (k + 1)) h) (c15 : ∀ (k : Nat) (h : eb_H) (v1 v2 : Int32), k < 512 → I k h → eb_Pr 111 226 [.int v1, .int v2] (I (k + 1)) h) (c16 : ∀ (k : Nat) (h : eb_H) (v1 v2 v3 : Int32), k < 512 → I k h → eb_Pr 112 235 [.int v1, .int v2, .int v3] (I (k + 1)) h) (c17 : ∀ (k : Nat) (h : eb_H) (v1 v2 v3 v4 : Int32), k < 512 → I k h → eb_Pr 113 236 [.int v1, .int v2, .int v3, .int v4] (I (k + 1)) h) (c18 : ∀ (k : Nat) (h : eb_H) (v1 v2 v3 v4 : Int32), k < 512 → I k h → eb_PrL 114 239 [.int v1, .int v2, .int v3, .int v4] (I (k + 1)) h) (c19 : ∀ (k : Nat) (h : eb_H) (v1 v2 v3 : Int32), k < 512 → I k h → eb_Pr 115 241 [.int v1, .int v2, .int v3] (I (k + 1)) h) (c20 : ∀ (k : Nat) (h : eb_H), k < 512 → I k h → eb_Pr 116 242 [] (I (k + 1)) h) (c21 : ∀ (k : Nat) (h : eb_H), k < 512 → I k h → eb_Pr 117 243 [] (I (k + 1)) h) (c22 : ∀ (k : Nat) (h : eb_H) (v1 : Int32), k < 512 → I k h → eb_Pr 118 244 [.int v1] (I (k + 1)) h) (c23 : ∀ (k : Nat) (h : eb_H) (v1 : Int32), k < 512 → I k h → eb_Pr 119 246 [.int v1] (I (k + 1)) h) (c24 : ∀ (k : Nat) (h : eb_H) (v1 v2 : Int32), k < 512 → I k h → eb_Pr 120 247 [.int v1, .int v2] (I (k + 1)) h) (c25 : ∀ (k : Nat) (h : eb_H) (v1 v2 : Int32), k < 512 → I k h → eb_Pr 121 248 [.int v1, .int v2] (I (k + 1)) h) (c26 : ∀ (k : Nat) (h : eb_H) (v1 v2 v3 : Int32), k < 512 → I k h → eb_PrL 122 251 [.int v1, .int v2, .int v3] (I (k + 1)) h) (c27 : ∀ (k : Nat) (h : eb_H) (v1 v2 v3 v4 : Int32), k < 512 → I k h → eb_Pr 123 252 [.int v1, .int v2, .int v3, .int v4] (I (k + 1)) h) (c28 : ∀ (k : Nat) (h : eb_H) (v1 v2 v3 : Int32), k < 512 → I k h → eb_Pr 124 253 [.int v1, .int v2, .int v3] (I (k + 1)) h) (c29 : ∀ (k : Nat) (h : eb_H) (v1 v2 v3 : Int32), k < 512 → I k h → eb_Pr 125 256 [.int v1, .int v2, .int v3] (I (k + 1)) h) (c30 : ∀ (k : Nat) (h : eb_H) (v1 v2 : Int32), k < 512 → I k h → eb_Pr 126 258 [.int v1, .int v2] (I (k + 1)) h) (c31 : ∀ (k : Nat) (h : eb_H) (v1 v2 : Int32), k < 512 → I k h → eb_Pr 127 260 [.int v1, .int v2] (I (k + 1)) h) (c32 : ∀ (k : Nat) (h : eb_H) (v1 v2 : Int32), k < 512 → I k h → eb_Pr 128 267 [.int v1, .int v2] (I (k + 1)) h) (c33 : ∀ (k : Nat) (h : eb_H) (v1 v2 : Int32), k < 512 → I k h → eb_Pr 129 268 [.int v1, .int v2] (I (k + 1)) h) (c34 : ∀ (k : Nat) (h : eb_H) (v1 v2 v3 v4 : Int32), k < 512 → I k h → eb_Pr 130 273 [.int v1, .int v2, .int v3, .int v4] (I (k + 1)) h) (c35 : ∀ (k : Nat) (h : eb_H) (v1 v2 : Int32), k < 512 → I k h → eb_Pr 131 274 [.int v1, .int v2] (I (k + 1)) h) (c36 : ∀ (k : Nat) (h : eb_H) (v1 : Int32), k < 512 → I k h → eb_Pr 132 275 [.int v1] (I (k + 1)) h) (c37 : ∀ (k : Nat) (h : eb_H) (v1 v2 v3 : Int32), k < 512 → I k h → eb_Pr 133 277 [.int v1, .int v2, .int v3] (I (k + 1)) h) (c38 : ∀ (k : Nat) (h : eb_H) (v1 v2 : Int32) (v3 : Int64), k < 512 → I k h → eb_PrL 134 278 [.int v1, .int v2, .long v3] (I (k + 1)) h) (c39 : ∀ (k : Nat) (h : eb_H) (v1 v2 v3 v4 : Int32), k < 512 → I k h → eb_Pr 135 279 [.int v1, .int v2, .int v3, .int v4] (I (k + 1)) h) (c40 : ∀ (k : Nat) (h : eb_H) (v1 : Int32), k < 512 → I k h → eb_Pr 136 280 [.int v1] (I (k + 1)) h) (c41 : ∀ (k : Nat) (h : eb_H) (v1 : Int32), k < 512 → I k h → eb_Pr 137 281 [.int v1] (I (k + 1)) h) (c42 : ∀ (k : Nat) (h : eb_H) (v1 : Int32), k < 512 → I k h → eb_Pr 138 282 [.int v1] (I (k + 1)) h) {h0 : eb_H} {Q : Option Value → eb_H → Prop} (hQ : ∀ k h, k ≤ 512 → I k h → Q (some (.int 1)) h) : ∀ (n k : Nat) (h : eb_H), k + n = 512 → I k h → eb_Sn 1300 m_L_law h0 18 [(0, .ref 20), (1, .ref s_EB), (2, .ref s_MO), (3, .int (nI (6 * k)))] [] h Q := by
  have hb : ∀ (k j : Nat), ¬ ((Int32.ofNat L) - 6 < nI (6 * k)) → k ≤ 512 → j ≤ 5 → vp_in (nI (6 * k) + nI j) L := by
    intro k j h1 h2 h3
    have e1 : (nI (6 * k)).toInt = ((6 * k : Nat) : Int) := nI_toInt (by omega)
    have e2 : ((Int32.ofNat L) - 6).toInt = (L : Int) - 6 := pk_sub_toInt (a := L) (b := 6) (by omega) (by omega)
    have e3 : ¬ ((L : Int) - 6 < ((6 * k : Nat) : Int)) := by
      intro q
      apply h1
      rw [Int32.lt_iff_toInt_lt, e1, e2]
      exact q
    rw [nI_add]
    exact vp_in_nI (by omega) (by omega)
  intro n
  induction n with
  | zero =>
    intro k h hk inv
    obtain ⟨ko, eL, eX⟩ := hI k h inv
    refine b_L_law_18 (d := 1299) s_EB s_MO _ rfl rfl ko ⟨fun _ => hQ k h (by omega) inv, fun c => ?_⟩
    exfalso
    apply c
    rw [eL]
    have e1 : (nI (6 * k)).toInt = ((6 * k : Nat) : Int) := nI_toInt (by omega)
    have e2 : ((Int32.ofNat L) - 6).toInt = (L : Int) - 6 := pk_sub_toInt (a := L) (b := 6) (by omega) (by omega)
    rw [Int32.lt_iff_toInt_lt, e1, e2]
    omega
  | succ n ih =>
    intro k h hk inv
    obtain ⟨ko, eL, eX⟩ := hI k h inv
    refine b_L_law_18 (d := 1299) s_EB s_MO _ rfl rfl ko ⟨fun _ => hQ k h (by omega) inv, fun c => ?_⟩
    rw [eL] at c ⊢
    have nxt : ∀ h2, I (k + 1) h2 → eb_Sn 1300 m_L_law h0 1672 [(0, .ref 20), (1, .ref s_EB), (2, .ref s_MO), (3, .int (nI (6 * k)))] [] h2 Q := by
      intro h2 inv2
      refine b_L_law_1672 (d := 1299) s_EB s_MO _ rfl rfl (hI _ _ inv2).1 ?_
      have e : nI (6 * k) + 6 = nI (6 * (k + 1)) := by
        show nI (6 * k) + nI 6 = _
        rw [nI_add]
        congr 1
      rw [e]
      exact ih (k + 1) h2 (by omega) inv2
    have b0 := hb k 0 c (by omega) (by omega)
    have b1 := hb k 1 c (by omega) (by omega)
    have b2 := hb k 2 c (by omega) (by omega)
    have b3 := hb k 3 c (by omega) (by omega)
    have b4 := hb k 4 c (by omega) (by omega)
    have b5 := hb k 5 c (by omega) (by omega)
    have hk5 : k < 512 := by omega
    refine ⟨by rw [nI_add] at b0; exact b0, ?_⟩
    refine ⟨fun _ => ?_, fun _ => ?_, fun _ => ?_, fun _ => ?_, fun _ => ?_, fun _ => ?_, fun _ => ?_, fun _ => ?_, fun _ => ?_, fun _ => ?_, fun _ => ?_, fun _ => ?_, fun _ => ?_, fun _ => ?_, fun _ => ?_, fun _ => ?_, fun _ => ?_, fun _ => ?_, fun _ => ?_, fun _ => ?_, fun _ => ?_, fun _ => ?_, fun _ => ?_, fun _ => ?_, fun _ => ?_, fun _ => ?_, fun _ => ?_, fun _ => ?_, fun _ => ?_, fun _ => ?_, fun _ => ?_, fun _ => ?_, fun _ => ?_, fun _ => ?_, fun _ => ?_, fun _ => ?_, fun _ => ?_, fun _ => ?_, fun _ => ?_, fun _ => ?_, fun _ => ?_, fun _ => ?_, fun _ => ?_, ?_⟩
    · refine b_L_law_220 (d := 1299) s_EB s_MO _ rfl rfl ko ⟨(by rw [eL]; exact b1), (by rw [eL]; exact b2), (by rw [eL]; exact b3), (by rw [eL]; exact b4), (by rw [eL]; exact b5), ?_⟩
      refine (c0 k h _ _ _ _ _ hk5 inv).mono ?_
      rintro r h1 ⟨y, rfl, ko1, e1L, e1X, q⟩
      refine ⟨y, rfl, ko1, (by rw [e1L, eL]; exact b1), (by rw [e1L, eL]; exact b2), (by rw [e1L, eL]; exact b3), (by rw [e1L, eL]; exact b4), (by rw [e1L, eL]; exact b5), ?_⟩
      rw [e1X]
      refine q.mono ?_
      rintro r2 h2 ⟨rfl, inv2⟩
      exact ⟨y, rfl, (hI _ _ inv2).1, fun _ => nxt h2 inv2, fun z => absurd rfl z⟩
    · refine b_L_law_283 (d := 1299) s_EB s_MO _ rfl rfl ko ⟨(by rw [eL]; exact b1), ?_⟩
      refine (c1 k h _ hk5 inv).mono ?_
      rintro r h1 ⟨y, rfl, ko1, e1L, e1X, q⟩
      refine ⟨y, rfl, ko1, (by rw [e1L, eL]; exact b1), ?_⟩
      rw [e1X]
      refine q.mono ?_
      rintro r2 h2 ⟨rfl, inv2⟩
      exact ⟨y, rfl, (hI _ _ inv2).1, fun _ => nxt h2 inv2, fun z => absurd rfl z⟩
    · refine b_L_law_306 (d := 1299) s_EB s_MO _ rfl rfl ko ⟨(by rw [eL]; exact b1), ?_⟩
      refine (c2 k h _ hk5 inv).mono ?_
      rintro r h1 ⟨y, rfl, ko1, e1L, e1X, q⟩
      refine ⟨y, rfl, ko1, (by rw [e1L, eL]; exact b1), ?_⟩
      rw [e1X]
      refine q.mono ?_
      rintro r2 h2 ⟨rfl, inv2⟩
      exact ⟨y, rfl, (hI _ _ inv2).1, fun _ => nxt h2 inv2, fun z => absurd rfl z⟩
    · refine b_L_law_329 (d := 1299) s_EB s_MO _ rfl rfl ko ⟨(by rw [eL]; exact b1), (by rw [eL]; exact b2), ?_⟩
      refine (c3 k h _ _ hk5 inv).mono ?_
      rintro r h1 ⟨y, rfl, ko1, e1L, e1X, q⟩
      refine ⟨y, rfl, ko1, (by rw [e1L, eL]; exact b1), (by rw [e1L, eL]; exact b2), ?_⟩
      rw [e1X]
      refine q.mono ?_
      rintro r2 h2 ⟨rfl, inv2⟩
      exact ⟨y, rfl, (hI _ _ inv2).1, fun _ => nxt h2 inv2, fun z => absurd rfl z⟩
    · refine b_L_law_362 (d := 1299) s_EB s_MO _ rfl rfl ko ⟨(by rw [eL]; exact b1), ?_⟩
      refine (c4 k h _ hk5 inv).mono ?_
      rintro r h1 ⟨y, rfl, ko1, e1L, e1X, q⟩
      refine ⟨y, rfl, ko1, (by rw [e1L, eL]; exact b1), ?_⟩
      rw [e1X]
      refine q.mono ?_
      rintro r2 h2 ⟨rfl, inv2⟩
      exact ⟨y, rfl, (hI _ _ inv2).1, fun _ => nxt h2 inv2, fun z => absurd rfl z⟩
    · refine b_L_law_385 (d := 1299) s_EB s_MO _ rfl rfl ko ⟨(by rw [eL]; exact b1), ?_⟩
      refine (c5 k h _ hk5 inv).mono ?_
      rintro r h1 ⟨y, rfl, ko1, e1L, e1X, q⟩
      refine ⟨y, rfl, ko1, (by rw [e1L, eL]; exact b1), ?_⟩
      rw [e1X]
      refine q.mono ?_
      rintro r2 h2 ⟨rfl, inv2⟩
      exact ⟨y, rfl, (hI _ _ inv2).1, fun _ => nxt h2 inv2, fun z => absurd rfl z⟩
    · refine b_L_law_408 (d := 1299) s_EB s_MO _ rfl rfl ko ⟨(by rw [eL]; exact b1), (by rw [eL]; exact b2), ?_⟩
      refine (c6 k h _ _ hk5 inv).mono ?_
      rintro r h1 ⟨y, rfl, ko1, e1L, e1X, q⟩
      refine ⟨y, rfl, ko1, (by rw [e1L, eL]; exact b1), (by rw [e1L, eL]; exact b2), ?_⟩
      rw [e1X]
      refine q.mono ?_
      rintro r2 h2 ⟨rfl, inv2⟩
      exact ⟨y, rfl, (hI _ _ inv2).1, fun _ => nxt h2 inv2, fun z => absurd rfl z⟩
    · refine b_L_law_441 (d := 1299) s_EB s_MO _ rfl rfl ko ⟨(by rw [eL]; exact b1), ?_⟩
      refine (c7 k h _ hk5 inv).mono ?_
      rintro r h1 ⟨y, rfl, ko1, e1L, e1X, q⟩
      refine ⟨y, rfl, ko1, (by rw [e1L, eL]; exact b1), ?_⟩
      rw [e1X]
      refine q.mono ?_
      rintro r2 h2 ⟨rfl, inv2⟩
      exact ⟨y, rfl, (hI _ _ inv2).1, fun _ => nxt h2 inv2, fun z => absurd rfl z⟩
    · refine b_L_law_464 (d := 1299) s_EB s_MO _ rfl rfl ko ⟨(by rw [eL]; exact b1), ?_⟩
      refine (c8 k h _ hk5 inv).mono ?_
      rintro r h1 ⟨y, rfl, ko1, e1L, e1X, q⟩
      refine ⟨y, rfl, ko1, (by rw [e1L, eL]; exact b1), ?_⟩
      rw [e1X]
      refine q.mono ?_
      rintro r2 h2 ⟨rfl, inv2⟩
      exact ⟨y, rfl, (hI _ _ inv2).1, fun _ => nxt h2 inv2, fun z => absurd rfl z⟩
    · refine b_L_law_487 (d := 1299) s_EB s_MO _ rfl rfl ko ⟨(by rw [eL]; exact b1), (by rw [eL]; exact b2), ?_⟩
      refine (c9 k h _ _ hk5 inv).mono ?_
      rintro r h1 ⟨y, rfl, ko1, e1L, e1X, q⟩
      refine ⟨y, rfl, ko1, (by rw [e1L, eL]; exact b1), (by rw [e1L, eL]; exact b2), ?_⟩
      rw [e1X]
      refine q.mono ?_
      rintro r2 h2 ⟨rfl, inv2⟩
      exact ⟨y, rfl, (hI _ _ inv2).1, fun _ => nxt h2 inv2, fun z => absurd rfl z⟩
    · refine b_L_law_520 (d := 1299) s_EB s_MO _ rfl rfl ko ⟨(by rw [eL]; exact b1), ?_⟩
      refine (c10 k h _ hk5 inv).mono ?_
      rintro r h1 ⟨y, rfl, ko1, e1L, e1X, q⟩
      refine ⟨y, rfl, ko1, (by rw [e1L, eL]; exact b1), ?_⟩
      rw [e1X]
      refine q.mono ?_
      rintro r2 h2 ⟨rfl, inv2⟩
      exact ⟨y, rfl, (hI _ _ inv2).1, fun _ => nxt h2 inv2, fun z => absurd rfl z⟩
    · refine b_L_law_543 (d := 1299) s_EB s_MO _ rfl rfl ko ⟨(by rw [eL]; exact b1), ?_⟩
      refine (c11 k h _ hk5 inv).mono ?_
      rintro r h1 ⟨y, rfl, ko1, e1L, e1X, q⟩
      refine ⟨y, rfl, ko1, (by rw [e1L, eL]; exact b1), ?_⟩
      rw [e1X]
      refine q.mono ?_
      rintro r2 h2 ⟨rfl, inv2⟩
      exact ⟨y, rfl, (hI _ _ inv2).1, fun _ => nxt h2 inv2, fun z => absurd rfl z⟩
    · refine b_L_law_566 (d := 1299) s_EB s_MO _ rfl rfl ko ⟨(by rw [eL]; exact b1), ?_⟩
      refine (c12 k h _ hk5 inv).mono ?_
      rintro r h1 ⟨y, rfl, ko1, e1L, e1X, q⟩
      refine ⟨y, rfl, ko1, (by rw [e1L, eL]; exact b1), ?_⟩
      rw [e1X]
      refine q.mono ?_
      rintro r2 h2 ⟨rfl, inv2⟩
      exact ⟨y, rfl, (hI _ _ inv2).1, fun _ => nxt h2 inv2, fun z => absurd rfl z⟩
    · refine b_L_law_589 (d := 1299) s_EB s_MO _ rfl rfl ko ⟨(by rw [eL]; exact b1), (by rw [eL]; exact b2), ?_⟩
      refine (c13 k h _ _ hk5 inv).mono ?_
      rintro r h1 ⟨y, rfl, ko1, e1L, e1X, q⟩
      refine ⟨y, rfl, ko1, (by rw [e1L, eL]; exact b1), (by rw [e1L, eL]; exact b2), ?_⟩
      rw [e1X]
      refine q.mono ?_
      rintro r2 h2 ⟨rfl, inv2⟩
      exact ⟨y, rfl, (hI _ _ inv2).1, fun _ => nxt h2 inv2, fun z => absurd rfl z⟩
    · refine b_L_law_622 (d := 1299) s_EB s_MO _ rfl rfl ko ⟨(by rw [eL]; exact b1), ?_⟩
      refine (c14 k h _ hk5 inv).mono ?_
      rintro r h1 ⟨y, rfl, ko1, e1L, e1X, q⟩
      refine ⟨y, rfl, ko1, (by rw [e1L, eL]; exact b1), ?_⟩
      rw [e1X]
      refine q.mono ?_
      rintro r2 h2 ⟨rfl, inv2⟩
      exact ⟨y, rfl, (hI _ _ inv2).1, fun _ => nxt h2 inv2, fun z => absurd rfl z⟩
    · refine b_L_law_645 (d := 1299) s_EB s_MO _ rfl rfl ko ⟨(by rw [eL]; exact b1), (by rw [eL]; exact b2), ?_⟩
      refine (c15 k h _ _ hk5 inv).mono ?_
      rintro r h1 ⟨y, rfl, ko1, e1L, e1X, q⟩
      refine ⟨y, rfl, ko1, (by rw [e1L, eL]; exact b1), (by rw [e1L, eL]; exact b2), ?_⟩
      rw [e1X]
      refine q.mono ?_
      rintro r2 h2 ⟨rfl, inv2⟩
      exact ⟨y, rfl, (hI _ _ inv2).1, fun _ => nxt h2 inv2, fun z => absurd rfl z⟩
    · refine b_L_law_678 (d := 1299) s_EB s_MO _ rfl rfl ko ⟨(by rw [eL]; exact b1), (by rw [eL]; exact b2), (by rw [eL]; exact b3), ?_⟩
      refine (c16 k h _ _ _ hk5 inv).mono ?_
      rintro r h1 ⟨y, rfl, ko1, e1L, e1X, q⟩
      refine ⟨y, rfl, ko1, (by rw [e1L, eL]; exact b1), (by rw [e1L, eL]; exact b2), (by rw [e1L, eL]; exact b3), ?_⟩
      rw [e1X]
      refine q.mono ?_
      rintro r2 h2 ⟨rfl, inv2⟩
      exact ⟨y, rfl, (hI _ _ inv2).1, fun _ => nxt h2 inv2, fun z => absurd rfl z⟩
    · refine b_L_law_721 (d := 1299) s_EB s_MO _ rfl rfl ko ⟨(by rw [eL]; exact b1), (by rw [eL]; exact b2), (by rw [eL]; exact b3), (by rw [eL]; exact b4), ?_⟩
      refine (c17 k h _ _ _ _ hk5 inv).mono ?_
      rintro r h1 ⟨y, rfl, ko1, e1L, e1X, q⟩
      refine ⟨y, rfl, ko1, (by rw [e1L, eL]; exact b1), (by rw [e1L, eL]; exact b2), (by rw [e1L, eL]; exact b3), (by rw [e1L, eL]; exact b4), ?_⟩
      rw [e1X]
      refine q.mono ?_
      rintro r2 h2 ⟨rfl, inv2⟩
      exact ⟨y, rfl, (hI _ _ inv2).1, fun _ => nxt h2 inv2, fun z => absurd rfl z⟩
    · refine b_L_law_774 (d := 1299) s_EB s_MO _ rfl rfl ko ⟨(by rw [eL]; exact b1), (by rw [eL]; exact b2), (by rw [eL]; exact b3), (by rw [eL]; exact b4), ?_⟩
      refine (c18 k h _ _ _ _ hk5 inv).mono ?_
      rintro r h1 ⟨y, rfl, ko1, e1L, e1X, q⟩
      refine ⟨y, rfl, ko1, (by rw [e1L, eL]; exact b1), (by rw [e1L, eL]; exact b2), (by rw [e1L, eL]; exact b3), (by rw [e1L, eL]; exact b4), ?_⟩
      rw [e1X]
      refine q.mono ?_
      rintro r2 h2 ⟨rfl, inv2⟩
      exact ⟨y, rfl, (hI _ _ inv2).1, fun _ => nxt h2 inv2, fun z => absurd rfl z⟩
    · refine b_L_law_828 (d := 1299) s_EB s_MO _ rfl rfl ko ⟨(by rw [eL]; exact b1), (by rw [eL]; exact b2), (by rw [eL]; exact b3), ?_⟩
      refine (c19 k h _ _ _ hk5 inv).mono ?_
      rintro r h1 ⟨y, rfl, ko1, e1L, e1X, q⟩
      refine ⟨y, rfl, ko1, (by rw [e1L, eL]; exact b1), (by rw [e1L, eL]; exact b2), (by rw [e1L, eL]; exact b3), ?_⟩
      rw [e1X]
      refine q.mono ?_
      rintro r2 h2 ⟨rfl, inv2⟩
      exact ⟨y, rfl, (hI _ _ inv2).1, fun _ => nxt h2 inv2, fun z => absurd rfl z⟩
    · refine b_L_law_871 (d := 1299) s_EB s_MO _ rfl rfl ko ?_
      refine (c20 k h hk5 inv).mono ?_
      rintro r h1 ⟨y, rfl, ko1, e1L, e1X, q⟩
      refine ⟨y, rfl, ko1, ?_⟩
      skip
      refine q.mono ?_
      rintro r2 h2 ⟨rfl, inv2⟩
      exact ⟨y, rfl, (hI _ _ inv2).1, fun _ => nxt h2 inv2, fun z => absurd rfl z⟩
    · refine b_L_law_884 (d := 1299) s_EB s_MO _ rfl rfl ko ?_
      refine (c21 k h hk5 inv).mono ?_
      rintro r h1 ⟨y, rfl, ko1, e1L, e1X, q⟩
      refine ⟨y, rfl, ko1, ?_⟩
      skip
      refine q.mono ?_
      rintro r2 h2 ⟨rfl, inv2⟩
      exact ⟨y, rfl, (hI _ _ inv2).1, fun _ => nxt h2 inv2, fun z => absurd rfl z⟩
    · refine b_L_law_897 (d := 1299) s_EB s_MO _ rfl rfl ko ⟨(by rw [eL]; exact b1), ?_⟩
      refine (c22 k h _ hk5 inv).mono ?_
      rintro r h1 ⟨y, rfl, ko1, e1L, e1X, q⟩
      refine ⟨y, rfl, ko1, (by rw [e1L, eL]; exact b1), ?_⟩
      rw [e1X]
      refine q.mono ?_
      rintro r2 h2 ⟨rfl, inv2⟩
      exact ⟨y, rfl, (hI _ _ inv2).1, fun _ => nxt h2 inv2, fun z => absurd rfl z⟩
    · refine b_L_law_920 (d := 1299) s_EB s_MO _ rfl rfl ko ⟨(by rw [eL]; exact b1), ?_⟩
      refine (c23 k h _ hk5 inv).mono ?_
      rintro r h1 ⟨y, rfl, ko1, e1L, e1X, q⟩
      refine ⟨y, rfl, ko1, (by rw [e1L, eL]; exact b1), ?_⟩
      rw [e1X]
      refine q.mono ?_
      rintro r2 h2 ⟨rfl, inv2⟩
      exact ⟨y, rfl, (hI _ _ inv2).1, fun _ => nxt h2 inv2, fun z => absurd rfl z⟩
    · refine b_L_law_943 (d := 1299) s_EB s_MO _ rfl rfl ko ⟨(by rw [eL]; exact b1), (by rw [eL]; exact b2), ?_⟩
      refine (c24 k h _ _ hk5 inv).mono ?_
      rintro r h1 ⟨y, rfl, ko1, e1L, e1X, q⟩
      refine ⟨y, rfl, ko1, (by rw [e1L, eL]; exact b1), (by rw [e1L, eL]; exact b2), ?_⟩
      rw [e1X]
      refine q.mono ?_
      rintro r2 h2 ⟨rfl, inv2⟩
      exact ⟨y, rfl, (hI _ _ inv2).1, fun _ => nxt h2 inv2, fun z => absurd rfl z⟩
    · refine b_L_law_976 (d := 1299) s_EB s_MO _ rfl rfl ko ⟨(by rw [eL]; exact b1), (by rw [eL]; exact b2), ?_⟩
      refine (c25 k h _ _ hk5 inv).mono ?_
      rintro r h1 ⟨y, rfl, ko1, e1L, e1X, q⟩
      refine ⟨y, rfl, ko1, (by rw [e1L, eL]; exact b1), (by rw [e1L, eL]; exact b2), ?_⟩
      rw [e1X]
      refine q.mono ?_
      rintro r2 h2 ⟨rfl, inv2⟩
      exact ⟨y, rfl, (hI _ _ inv2).1, fun _ => nxt h2 inv2, fun z => absurd rfl z⟩
    · refine b_L_law_1009 (d := 1299) s_EB s_MO _ rfl rfl ko ⟨(by rw [eL]; exact b1), (by rw [eL]; exact b2), (by rw [eL]; exact b3), ?_⟩
      refine (c26 k h _ _ _ hk5 inv).mono ?_
      rintro r h1 ⟨y, rfl, ko1, e1L, e1X, q⟩
      refine ⟨y, rfl, ko1, (by rw [e1L, eL]; exact b1), (by rw [e1L, eL]; exact b2), (by rw [e1L, eL]; exact b3), ?_⟩
      rw [e1X]
      refine q.mono ?_
      rintro r2 h2 ⟨rfl, inv2⟩
      exact ⟨y, rfl, (hI _ _ inv2).1, fun _ => nxt h2 inv2, fun z => absurd rfl z⟩
    · refine b_L_law_1053 (d := 1299) s_EB s_MO _ rfl rfl ko ⟨(by rw [eL]; exact b1), (by rw [eL]; exact b2), (by rw [eL]; exact b3), (by rw [eL]; exact b4), ?_⟩
      refine (c27 k h _ _ _ _ hk5 inv).mono ?_
      rintro r h1 ⟨y, rfl, ko1, e1L, e1X, q⟩
      refine ⟨y, rfl, ko1, (by rw [e1L, eL]; exact b1), (by rw [e1L, eL]; exact b2), (by rw [e1L, eL]; exact b3), (by rw [e1L, eL]; exact b4), ?_⟩
      rw [e1X]
      refine q.mono ?_
      rintro r2 h2 ⟨rfl, inv2⟩
      exact ⟨y, rfl, (hI _ _ inv2).1, fun _ => nxt h2 inv2, fun z => absurd rfl z⟩
    · refine b_L_law_1106 (d := 1299) s_EB s_MO _ rfl rfl ko ⟨(by rw [eL]; exact b1), (by rw [eL]; exact b2), (by rw [eL]; exact b3), ?_⟩
      refine (c28 k h _ _ _ hk5 inv).mono ?_
      rintro r h1 ⟨y, rfl, ko1, e1L, e1X, q⟩
      refine ⟨y, rfl, ko1, (by rw [e1L, eL]; exact b1), (by rw [e1L, eL]; exact b2), (by rw [e1L, eL]; exact b3), ?_⟩
      rw [e1X]
      refine q.mono ?_
      rintro r2 h2 ⟨rfl, inv2⟩
      exact ⟨y, rfl, (hI _ _ inv2).1, fun _ => nxt h2 inv2, fun z => absurd rfl z⟩
    · refine b_L_law_1149 (d := 1299) s_EB s_MO _ rfl rfl ko ⟨(by rw [eL]; exact b1), (by rw [eL]; exact b2), (by rw [eL]; exact b3), ?_⟩
      refine (c29 k h _ _ _ hk5 inv).mono ?_
      rintro r h1 ⟨y, rfl, ko1, e1L, e1X, q⟩
      refine ⟨y, rfl, ko1, (by rw [e1L, eL]; exact b1), (by rw [e1L, eL]; exact b2), (by rw [e1L, eL]; exact b3), ?_⟩
      rw [e1X]
      refine q.mono ?_
      rintro r2 h2 ⟨rfl, inv2⟩
      exact ⟨y, rfl, (hI _ _ inv2).1, fun _ => nxt h2 inv2, fun z => absurd rfl z⟩
    · refine b_L_law_1192 (d := 1299) s_EB s_MO _ rfl rfl ko ⟨(by rw [eL]; exact b1), (by rw [eL]; exact b2), ?_⟩
      refine (c30 k h _ _ hk5 inv).mono ?_
      rintro r h1 ⟨y, rfl, ko1, e1L, e1X, q⟩
      refine ⟨y, rfl, ko1, (by rw [e1L, eL]; exact b1), (by rw [e1L, eL]; exact b2), ?_⟩
      rw [e1X]
      refine q.mono ?_
      rintro r2 h2 ⟨rfl, inv2⟩
      exact ⟨y, rfl, (hI _ _ inv2).1, fun _ => nxt h2 inv2, fun z => absurd rfl z⟩
    · refine b_L_law_1225 (d := 1299) s_EB s_MO _ rfl rfl ko ⟨(by rw [eL]; exact b1), (by rw [eL]; exact b2), ?_⟩
      refine (c31 k h _ _ hk5 inv).mono ?_
      rintro r h1 ⟨y, rfl, ko1, e1L, e1X, q⟩
      refine ⟨y, rfl, ko1, (by rw [e1L, eL]; exact b1), (by rw [e1L, eL]; exact b2), ?_⟩
      rw [e1X]
      refine q.mono ?_
      rintro r2 h2 ⟨rfl, inv2⟩
      exact ⟨y, rfl, (hI _ _ inv2).1, fun _ => nxt h2 inv2, fun z => absurd rfl z⟩
    · refine b_L_law_1258 (d := 1299) s_EB s_MO _ rfl rfl ko ⟨(by rw [eL]; exact b1), (by rw [eL]; exact b2), ?_⟩
      refine (c32 k h _ _ hk5 inv).mono ?_
      rintro r h1 ⟨y, rfl, ko1, e1L, e1X, q⟩
      refine ⟨y, rfl, ko1, (by rw [e1L, eL]; exact b1), (by rw [e1L, eL]; exact b2), ?_⟩
      rw [e1X]
      refine q.mono ?_
      rintro r2 h2 ⟨rfl, inv2⟩
      exact ⟨y, rfl, (hI _ _ inv2).1, fun _ => nxt h2 inv2, fun z => absurd rfl z⟩
    · refine b_L_law_1291 (d := 1299) s_EB s_MO _ rfl rfl ko ⟨(by rw [eL]; exact b1), (by rw [eL]; exact b2), ?_⟩
      refine (c33 k h _ _ hk5 inv).mono ?_
      rintro r h1 ⟨y, rfl, ko1, e1L, e1X, q⟩
      refine ⟨y, rfl, ko1, (by rw [e1L, eL]; exact b1), (by rw [e1L, eL]; exact b2), ?_⟩
      rw [e1X]
      refine q.mono ?_
      rintro r2 h2 ⟨rfl, inv2⟩
      exact ⟨y, rfl, (hI _ _ inv2).1, fun _ => nxt h2 inv2, fun z => absurd rfl z⟩
    · refine b_L_law_1324 (d := 1299) s_EB s_MO _ rfl rfl ko ⟨(by rw [eL]; exact b1), (by rw [eL]; exact b2), (by rw [eL]; exact b3), (by rw [eL]; exact b4), ?_⟩
      refine (c34 k h _ _ _ _ hk5 inv).mono ?_
      rintro r h1 ⟨y, rfl, ko1, e1L, e1X, q⟩
      refine ⟨y, rfl, ko1, (by rw [e1L, eL]; exact b1), (by rw [e1L, eL]; exact b2), (by rw [e1L, eL]; exact b3), (by rw [e1L, eL]; exact b4), ?_⟩
      rw [e1X]
      refine q.mono ?_
      rintro r2 h2 ⟨rfl, inv2⟩
      exact ⟨y, rfl, (hI _ _ inv2).1, fun _ => nxt h2 inv2, fun z => absurd rfl z⟩
    · refine b_L_law_1377 (d := 1299) s_EB s_MO _ rfl rfl ko ⟨(by rw [eL]; exact b1), (by rw [eL]; exact b2), ?_⟩
      refine (c35 k h _ _ hk5 inv).mono ?_
      rintro r h1 ⟨y, rfl, ko1, e1L, e1X, q⟩
      refine ⟨y, rfl, ko1, (by rw [e1L, eL]; exact b1), (by rw [e1L, eL]; exact b2), ?_⟩
      rw [e1X]
      refine q.mono ?_
      rintro r2 h2 ⟨rfl, inv2⟩
      exact ⟨y, rfl, (hI _ _ inv2).1, fun _ => nxt h2 inv2, fun z => absurd rfl z⟩
    · refine b_L_law_1410 (d := 1299) s_EB s_MO _ rfl rfl ko ⟨(by rw [eL]; exact b1), ?_⟩
      refine (c36 k h _ hk5 inv).mono ?_
      rintro r h1 ⟨y, rfl, ko1, e1L, e1X, q⟩
      refine ⟨y, rfl, ko1, (by rw [e1L, eL]; exact b1), ?_⟩
      rw [e1X]
      refine q.mono ?_
      rintro r2 h2 ⟨rfl, inv2⟩
      exact ⟨y, rfl, (hI _ _ inv2).1, fun _ => nxt h2 inv2, fun z => absurd rfl z⟩
    · refine b_L_law_1433 (d := 1299) s_EB s_MO _ rfl rfl ko ⟨(by rw [eL]; exact b1), (by rw [eL]; exact b2), (by rw [eL]; exact b3), ?_⟩
      refine (c37 k h _ _ _ hk5 inv).mono ?_
      rintro r h1 ⟨y, rfl, ko1, e1L, e1X, q⟩
      refine ⟨y, rfl, ko1, (by rw [e1L, eL]; exact b1), (by rw [e1L, eL]; exact b2), (by rw [e1L, eL]; exact b3), ?_⟩
      rw [e1X]
      refine q.mono ?_
      rintro r2 h2 ⟨rfl, inv2⟩
      exact ⟨y, rfl, (hI _ _ inv2).1, fun _ => nxt h2 inv2, fun z => absurd rfl z⟩
    · refine b_L_law_1476 (d := 1299) s_EB s_MO _ rfl rfl ko ⟨(by rw [eL]; exact b1), (by rw [eL]; exact b2), (by rw [eL]; exact b3), (by rw [eL]; exact b4), ?_⟩
      refine (c38 k h _ _ _ hk5 inv).mono ?_
      rintro r h1 ⟨y, rfl, ko1, e1L, e1X, q⟩
      refine ⟨y, rfl, ko1, (by rw [e1L, eL]; exact b1), (by rw [e1L, eL]; exact b2), (by rw [e1L, eL]; exact b3), (by rw [e1L, eL]; exact b4), ?_⟩
      rw [e1X]
      refine q.mono ?_
      rintro r2 h2 ⟨rfl, inv2⟩
      exact ⟨y, rfl, (hI _ _ inv2).1, fun _ => nxt h2 inv2, fun z => absurd rfl z⟩
    · refine b_L_law_1550 (d := 1299) s_EB s_MO _ rfl rfl ko ⟨(by rw [eL]; exact b1), (by rw [eL]; exact b2), (by rw [eL]; exact b3), (by rw [eL]; exact b4), ?_⟩
      refine (c39 k h _ _ _ _ hk5 inv).mono ?_
      rintro r h1 ⟨y, rfl, ko1, e1L, e1X, q⟩
      refine ⟨y, rfl, ko1, (by rw [e1L, eL]; exact b1), (by rw [e1L, eL]; exact b2), (by rw [e1L, eL]; exact b3), (by rw [e1L, eL]; exact b4), ?_⟩
      rw [e1X]
      refine q.mono ?_
      rintro r2 h2 ⟨rfl, inv2⟩
      exact ⟨y, rfl, (hI _ _ inv2).1, fun _ => nxt h2 inv2, fun z => absurd rfl z⟩
    · refine b_L_law_1603 (d := 1299) s_EB s_MO _ rfl rfl ko ⟨(by rw [eL]; exact b1), ?_⟩
      refine (c40 k h _ hk5 inv).mono ?_
      rintro r h1 ⟨y, rfl, ko1, e1L, e1X, q⟩
      refine ⟨y, rfl, ko1, (by rw [e1L, eL]; exact b1), ?_⟩
      rw [e1X]
      refine q.mono ?_
      rintro r2 h2 ⟨rfl, inv2⟩
      exact ⟨y, rfl, (hI _ _ inv2).1, fun _ => nxt h2 inv2, fun z => absurd rfl z⟩
    · refine b_L_law_1626 (d := 1299) s_EB s_MO _ rfl rfl ko ⟨(by rw [eL]; exact b1), ?_⟩
      refine (c41 k h _ hk5 inv).mono ?_
      rintro r h1 ⟨y, rfl, ko1, e1L, e1X, q⟩
      refine ⟨y, rfl, ko1, (by rw [e1L, eL]; exact b1), ?_⟩
      rw [e1X]
      refine q.mono ?_
      rintro r2 h2 ⟨rfl, inv2⟩
      exact ⟨y, rfl, (hI _ _ inv2).1, fun _ => nxt h2 inv2, fun z => absurd rfl z⟩
    · refine b_L_law_1649 (d := 1299) s_EB s_MO _ rfl rfl ko ⟨(by rw [eL]; exact b1), ?_⟩
      refine (c42 k h _ hk5 inv).mono ?_
      rintro r h1 ⟨y, rfl, ko1, e1L, e1X, q⟩
      refine ⟨y, rfl, ko1, (by rw [e1L, eL]; exact b1), ?_⟩
      rw [e1X]
      refine q.mono ?_
      rintro r2 h2 ⟨rfl, inv2⟩
      exact ⟨y, rfl, (hI _ _ inv2).1, fun _ => nxt h2 inv2, fun z => absurd rfl z⟩
    · intros
      exact nxt h (hm k h inv)
