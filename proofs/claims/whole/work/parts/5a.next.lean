section EBNEXT
variable {L : Nat} {xs : Nat → Int32}
/-! ===== the reference cuts the text ===== -/
def ee_MX (h : eb_H) (tx : Nat → Nat) (n : Nat) : Prop := (∀ j, j < n → eb_I h s_m_tape j = nI (tx j)) ∧ eb_I h s_MO 8 = nI n
def ee_MT (h : eb_H) (tx : Nat → Nat) (n p : Nat) : Prop := ee_MX h tx n ∧ eb_I h s_MO 6 = nI (ee_b tx n p) ∧ eb_I h s_MO 7 = nI (ee_e tx n p) ∧ eb_I h s_MO 9 = nI (ee_k tx n p) ∧ (ee_k tx n p = 23 → eb_I h s_MO 10 = nI (ee_v tx n p))
/-- only where the token at hand is kept -/
def ee_fo (h h' : eb_H) : Prop := ec_fr (fun c => c = s_MO) h h' ∧ ∀ j, j ≠ 6 → j ≠ 7 → j ≠ 9 → j ≠ 10 → eb_I h' s_MO j = eb_I h s_MO j
theorem ee_fo.rfl {h : eb_H} : ee_fo h h := ⟨ec_fr.rfl, fun _ _ _ _ _ => Eq.refl _⟩
theorem ee_fo.trans {h h1 h2 : eb_H} (a : ee_fo h h1) (b : ee_fo h1 h2) : ee_fo h h2 := ⟨a.1.trans b.1, fun j x1 x2 x3 x4 => (b.2 j x1 x2 x3 x4).trans (a.2 j x1 x2 x3 x4)⟩
theorem ee_fo.sI {h h1 : eb_H} (a : ee_fo h h1) {k : Nat} {v : Int32} (hk : k = 6 ∨ k = 7 ∨ k = 9 ∨ k = 10) : ee_fo h (eb_sI h1 s_MO k v) := ⟨a.1.sI (Eq.refl _), fun j x1 x2 x3 x4 => by rw [eb_I_sI, if_neg (by omega)]; exact a.2 j x1 x2 x3 x4⟩
theorem ee_MX.sI {h : eb_H} {tx : Nat → Nat} {n k : Nat} {v : Int32} (t : ee_MX h tx n) (hk : 8 ≠ k) : ee_MX (eb_sI h s_MO k v) tx n := ⟨by rw [eb_I_sIn (by decide)]; exact t.1, by rw [eb_I_sI, if_neg hk]; exact t.2⟩
def ee_sv (tx : Nat → Nat) (n q : Nat) : Int32 := if q < n then nI (tx q) else -1
theorem M_see {d : Nat} {h : eb_H} {Q : Option Value → eb_H → Prop} {tx : Nat → Nat} {n : Nat} (hn : n ≤ 900) (t : ee_MX h tx n) (q : Nat) (hq : q ≤ 900) (ko : eb_KO h) (w : Q (some (.int (ee_sv tx n q))) h) : eb_Ct d 160 [.ref s_MO, .int (nI q)] h Q := by
  refine T_X11_see _ ko ?_
  rw [t.2, nI_leI (by omega) (by omega), eb_cln (n := q) (by omega)]
  unfold ee_sv at w
  refine ⟨fun z => ?_, fun z => ⟨vp_in_nI (by omega) (by omega), ?_⟩⟩
  · rw [if_neg (by omega)] at w; exact w
  · rw [if_pos (by omega)] at w
    rw [t.1 q (by omega)]
    exact w
theorem ee_so_c {tx : Nat → Nat} {n q : Nat} (ht : ∀ j, j < n → tx j < 256) : ((ee_sv tx n q = 10 ∨ ee_sv tx n q = 32) ↔ ee_so tx n q = 4) ∧ (((¬ (ee_sv tx n q < (97 : Int32))) ∧ (¬ ((122 : Int32) < ee_sv tx n q))) ↔ ee_so tx n q = 1) ∧ (((¬ (ee_sv tx n q < (48 : Int32))) ∧ (¬ ((57 : Int32) < ee_sv tx n q))) ↔ ee_so tx n q = 2) := by
  by_cases z : q < n
  · have cl := ht q z
    have ev : ee_sv tx n q = nI (tx q) := if_pos z
    have es : ee_so tx n q = ee_sc (tx q) := if_pos z
    rw [ev, es]
    have e10 : nI (tx q) = (10 : Int32) ↔ tx q = 10 := nI_eq (b := 10) (by omega) (by omega)
    have e32 : nI (tx q) = (32 : Int32) ↔ tx q = 32 := nI_eq (b := 32) (by omega) (by omega)
    have l97 : nI (tx q) < (97 : Int32) ↔ tx q < 97 := nI_ltI (b := 97) (by omega) (by omega)
    have l48 : nI (tx q) < (48 : Int32) ↔ tx q < 48 := nI_ltI (b := 48) (by omega) (by omega)
    have g122 : (122 : Int32) < nI (tx q) ↔ 122 < tx q := nI_ltI (a := 122) (by omega) (by omega)
    have g57 : (57 : Int32) < nI (tx q) ↔ 57 < tx q := nI_ltI (a := 57) (by omega) (by omega)
    rw [e10, e32, l97, l48, g122, g57]
    unfold ee_sc
    by_cases a1 : tx q = 10 ∨ tx q = 32
    · rw [if_pos a1]; omega
    · rw [if_neg a1]
      by_cases a2 : 97 ≤ tx q ∧ tx q ≤ 122
      · rw [if_pos a2]; omega
      · rw [if_neg a2]
        by_cases a3 : 48 ≤ tx q ∧ tx q ≤ 57
        · rw [if_pos a3]; omega
        · rw [if_neg a3]
          split <;> omega
  · have ev : ee_sv tx n q = -1 := if_neg z
    have es : ee_so tx n q = 0 := ee_so_0 tx n q (by omega)
    rw [ev, es]
    decide
theorem M_small {d : Nat} {h : eb_H} {Q : Option Value → eb_H → Prop} {tx : Nat → Nat} {n : Nat} (ht : ∀ j, j < n → tx j < 256) (q : Nat) (ko : eb_KO h) (w : Q (some (.int (if ee_so tx n q = 1 then 1 else 0))) h) : eb_Ct d 161 [.int (ee_sv tx n q)] h Q := by
  refine T_X11_isSmall _ ko ?_
  have := (ee_so_c (q := q) ht).2.1
  by_cases z : ee_so tx n q = 1
  · rw [if_pos z] at w
    exact ec_qp (Q := fun y => Q (some (.int y)) h) (this.mpr z) w
  · rw [if_neg z] at w
    exact ec_qn (Q := fun y => Q (some (.int y)) h) (fun u => z (this.mp u)) w
theorem M_digit {d : Nat} {h : eb_H} {Q : Option Value → eb_H → Prop} {tx : Nat → Nat} {n : Nat} (ht : ∀ j, j < n → tx j < 256) (q : Nat) (ko : eb_KO h) (w : Q (some (.int (if ee_so tx n q = 2 then 1 else 0))) h) : eb_Ct d 162 [.int (ee_sv tx n q)] h Q := by
  refine T_X11_isDigit _ ko ?_
  have := (ee_so_c (q := q) ht).2.2
  by_cases z : ee_so tx n q = 2
  · rw [if_pos z] at w
    exact ec_qp (Q := fun y => Q (some (.int y)) h) (this.mpr z) w
  · rw [if_neg z] at w
    exact ec_qn (Q := fun y => Q (some (.int y)) h) (fun u => z (this.mp u)) w
/-! which word -/
def ee_of : List Nat := [1, 8, 14, 18, 24, 30, 36, 41, 45, 49, 55, 62, 67, 72, 77, 81, 84, 88]
theorem ee_kc : ∀ r, r < 17 → ∀ j, j < (ee_str (ee_kl.getD r 0)).length → eb_cA 0 (ee_of.getD r 0 + j) = nI ((ee_str (ee_kl.getD r 0)).getD j 0) ∧ (ee_str (ee_kl.getD r 0)).getD j 0 < 256 ∧ (ee_str (ee_kl.getD r 0)).getD j 0 ≠ 32 := by decide +kernel
theorem ee_kd : ∀ r, r < 17 → eb_cA 0 (ee_of.getD r 0 + (ee_str (ee_kl.getD r 0)).length) = 32 ∧ ee_of.getD (r + 1) 0 = ee_of.getD r 0 + (ee_str (ee_kl.getD r 0)).length + 1 ∧ ee_of.getD r 0 + (ee_str (ee_kl.getD r 0)).length < 88 := by decide +kernel
theorem ee_key_r {tx : Nat → Nat} {b e r : Nat} (hr : r < 17) (h : ee_is tx b e (ee_kl.getD r 0) = true) : ee_key tx b e = r := by
  have hl : ee_kl.length = 17 := rfl
  have fi : ee_kl.findIdx (fun i => ee_is tx b e i) < 17 := by
    rw [← hl, List.findIdx_lt_length]
    exact ⟨ee_kl.getD r 0, by rw [ee_gd (show r < ee_kl.length by omega)]; exact List.getElem_mem _, h⟩
  have fg := List.findIdx_getElem (p := fun i => ee_is tx b e i) (xs := ee_kl) (w := by omega)
  have e2 := ee_is_u h fg
  rw [← ee_gd (by omega)] at e2
  have := ee_str_ne r hr _ fi e2
  unfold ee_key
  rw [if_pos fi]
  exact this.symm
theorem ee_key_n {tx : Nat → Nat} {b e : Nat} (h : ∀ r, r < 17 → ¬ ee_is tx b e (ee_kl.getD r 0) = true) : ee_key tx b e = 22 := by
  have hl : ee_kl.length = 17 := rfl
  unfold ee_key
  rw [if_neg]
  intro fi
  have fg := List.findIdx_getElem (p := fun i => ee_is tx b e i) (xs := ee_kl) (w := by omega)
  rw [← ee_gd (by omega)] at fg
  exact h _ fi fg
theorem M_key {d : Nat} {h : eb_H} {Q : Option Value → eb_H → Prop} {tx : Nat → Nat} {n b e : Nat} (ht : ∀ j, j < n → tx j < 256) (hn : n ≤ 900) (t : ee_MX h tx n) (e6 : eb_I h s_MO 6 = nI b) (e7 : eb_I h s_MO 7 = nI e) (hb : b ≤ e) (he : e ≤ n) (ko : eb_KO h) (w : Q (some (.int (nI (ee_key tx b e)))) h) : eb_Ct (d + 4) 163 [.ref s_MO] h Q := by
  have s88 : eb_sln.getD 0 0 = 88 := rfl
  have key : ∀ (m r : Nat), r + m = 17 → (∀ r', r' < r → ¬ ee_is tx b e (ee_kl.getD r' 0) = true) → eb_Sn (d + 4) m_X11_keyAt h 4 [(0, .ref s_MO), (1, .int (nI r)), (2, .int (nI (ee_of.getD r 0)))] [] h Q := by
    intro m
    induction m with
    | zero =>
      intro r hr no
      have hr : r = 17 := by omega
      subst hr
      rw [ee_key_n no] at w
      exact b_X11_keyAt_4 (d := d + 3) _ _ ko (C_length (d := d + 2) 0 (by decide) ko ⟨_, rfl, ko, fun _ => w, fun z => absurd (by decide) z⟩)
    | succ m ih =>
      intro r hr no
      have r17 : r < 17 := by omega
      obtain ⟨k1, k2, k3⟩ := ee_kd r r17
      have hlen : eb_sln.getD 0 0 = 88 := rfl
      refine b_X11_keyAt_4 (d := d + 3) _ _ ko (C_length (d := d + 2) 0 (by decide) ko ⟨_, rfl, ko, fun z => absurd z (nI_ge (by omega) (by omega)), fun _ => ?_⟩)
      -- the next word
      have nxt : ¬ ee_is tx b e (ee_kl.getD r 0) = true → eb_Sn (d + 4) m_X11_keyAt h 97 [(0, .ref s_MO), (1, .int (nI r)), (2, .int (nI (ee_of.getD r 0)))] [] h Q := by
        intro nr
        have lp : ∀ (m2 j : Nat), j + m2 = (ee_str (ee_kl.getD r 0)).length → eb_Sn (d + 4) m_X11_keyAt h 97 [(0, .ref s_MO), (1, .int (nI r)), (2, .int (nI (ee_of.getD r 0 + j)))] [] h Q := by
          intro m2
          induction m2 with
          | zero =>
            intro j hj
            have hj : j = (ee_str (ee_kl.getD r 0)).length := by omega
            refine b_X11_keyAt_97 (d := d + 3) _ _ ko (C_charAt (d := d) 0 (ee_of.getD r 0 + j) (by decide) (by omega) ko ⟨_, rfl, ko, ?_⟩)
            rw [hj, k1, nI_1, nI_1]
            refine ⟨fun _ => ?_, fun z => absurd rfl z⟩
            rw [← k2]
            exact ih (r + 1) (by omega) (fun r' hr' => by
              by_cases e' : r' = r
              · rw [e']; exact nr
              · exact no r' (by omega))
          | succ m2 ih2 =>
            intro j hj
            obtain ⟨c1, c2, c3⟩ := ee_kc r r17 j (by omega)
            refine b_X11_keyAt_97 (d := d + 3) _ _ ko (C_charAt (d := d) 0 (ee_of.getD r 0 + j) (by decide) (by omega) ko ⟨_, rfl, ko, ?_⟩)
            rw [c1, nI_1, nI_1]
            exact ⟨fun z => absurd ((nI_eq (b := 32) (by omega) (by omega)).mp z) c3, fun _ => ih2 (j + 1) (by omega)⟩
        exact lp _ 0 (Nat.zero_add _)
      have cmp : ∀ (m2 j : Nat), j + m2 = (ee_str (ee_kl.getD r 0)).length → (∀ j', j' < j → tx (b + j') = (ee_str (ee_kl.getD r 0)).getD j' 0) → j ≤ e - b → eb_Sn (d + 4) m_X11_keyAt h 15 [(0, .ref s_MO), (1, .int (nI r)), (2, .int (nI (ee_of.getD r 0))), (3, .int (nI j))] [] h Q := by
        intro m2
        induction m2 with
        | zero =>
          intro j hj a je
          have hj : j = (ee_str (ee_kl.getD r 0)).length := by omega
          refine b_X11_keyAt_15 (d := d + 3) _ _ _ ko ?_
          rw [nI_add]
          refine C_charAt (d := d) 0 (ee_of.getD r 0 + j) (by decide) (by omega) ko ⟨_, rfl, ko, fun _ => ?_, fun z => ?_⟩
          · refine C_charAt (d := d) 0 (ee_of.getD r 0 + j) (by decide) (by omega) ko ⟨_, rfl, ko, fun z => ?_, fun _ => ?_⟩
            · rw [hj, k1] at z
              exact absurd rfl z
            · rw [e6, e7, nI_add, nI_eq (by omega) (by omega)]
              refine ⟨fun z => nxt (fun u => ?_), fun z => ?_⟩
              · unfold ee_is at u
                rw [Bool.and_eq_true, decide_eq_true_iff] at u
                omega
              · have : ee_is tx b e (ee_kl.getD r 0) = true := by
                  unfold ee_is
                  rw [Bool.and_eq_true, decide_eq_true_iff, ee_q_at]
                  exact ⟨by omega, fun j' hj' => a j' (by omega)⟩
                rw [ee_key_r r17 this] at w
                exact w
          · rw [hj, k1] at z
            exact absurd rfl z
        | succ m2 ih2 =>
          intro j hj a je
          obtain ⟨c1, c2, c3⟩ := ee_kc r r17 j (by omega)
          have n32 : ¬ nI ((ee_str (ee_kl.getD r 0)).getD j 0) = (32 : Int32) := fun z => c3 ((nI_eq (b := 32) (by omega) (by omega)).mp z)
          refine b_X11_keyAt_15 (d := d + 3) _ _ _ ko ?_
          rw [nI_add]
          refine C_charAt (d := d) 0 (ee_of.getD r 0 + j) (by decide) (by omega) ko ⟨_, rfl, ko, fun z => ?_, fun _ => ?_⟩
          · rw [c1] at z
            exact absurd z n32
          · rw [e6, e7, nI_add, nI_leI (by omega) (by omega)]
            have stop : (ee_is tx b e (ee_kl.getD r 0) = true → False) → eb_Ct (d + 3) 290 [.ref (eb_mk 0 21 0), .int (nI (ee_of.getD r 0 + j))] h (fun r' h11 => ∃ y12, r' = some (.int y12) ∧ eb_KO h11 ∧ ((¬ y12 = (32 : Int32) → eb_Sn (d + 4) m_X11_keyAt h 97 [(0, .ref s_MO), (1, .int (nI r)), (2, .int (nI (ee_of.getD r 0)))] [] h11 Q) ∧ (y12 = (32 : Int32) → ((¬ ((eb_I h11 s_MO 6) + nI j) = (eb_I h11 s_MO 7) → eb_Sn (d + 4) m_X11_keyAt h 97 [(0, .ref s_MO), (1, .int (nI r)), (2, .int (nI (ee_of.getD r 0)))] [] h11 Q) ∧ (((eb_I h11 s_MO 6) + nI j) = (eb_I h11 s_MO 7) → Q (some (.int (nI r))) h11))))) := fun nr => by
              refine C_charAt (d := d) 0 (ee_of.getD r 0 + j) (by decide) (by omega) ko ⟨_, rfl, ko, fun _ => nxt nr, fun z => ?_⟩
              rw [c1] at z
              exact absurd z n32
            refine ⟨fun z => stop (fun u => ?_), fun z => ⟨vp_in_nI (by omega) (by omega), ?_⟩⟩
            · unfold ee_is at u
              rw [Bool.and_eq_true, decide_eq_true_iff] at u
              omega
            · have cl := ht (b + j) (by omega)
              rw [eb_cln (n := b + j) (by omega), t.1 (b + j) (by omega), nI_1]
              refine C_charAt (d := d) 0 (ee_of.getD r 0 + j) (by decide) (by omega) ko ⟨_, rfl, ko, ?_⟩
              rw [c1, nI_eq (by omega) (by omega)]
              refine ⟨fun y => stop (fun u => ?_), fun y => ih2 (j + 1) (by omega) (fun j' hj' => ?_) (by omega)⟩
              · unfold ee_is at u
                rw [Bool.and_eq_true, ee_q_at] at u
                exact y (u.2 j (by omega))
              · by_cases e' : j' = j
                · rw [e']; exact y
                · exact a j' (by omega)
      exact cmp _ 0 (Nat.zero_add _) (fun j' hj' => absurd hj' (by omega)) (by omega)
  exact T_X11_keyAt (d := d + 3) ko (key 17 0 (by omega) (fun r' hr' => absurd hr' (by omega)))
end EBNEXT
