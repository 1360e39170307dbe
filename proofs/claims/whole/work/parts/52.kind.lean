section EBKIND
variable {L : Nat} {xs : Nat → Int32}
def ee_str (i : Nat) : List Nat := (eb_byt.getD i []).map (fun x => x.toInt.toNat)
def ee_q (tx : Nat → Nat) : Nat → List Nat → Bool
  | _, [] => true
  | b, c :: l => decide (tx b = c) && ee_q tx (b + 1) l
def ee_is (tx : Nat → Nat) (b e i : Nat) : Bool := decide (e - b = (ee_str i).length) && ee_q tx b (ee_str i)
theorem ee_q_at {tx : Nat → Nat} : ∀ (l : List Nat) (b : Nat), ee_q tx b l = true ↔ ∀ j, j < l.length → tx (b + j) = l.getD j 0
  | [], b => ⟨fun _ j h => absurd h (by show ¬ j < 0; omega), fun _ => rfl⟩
  | c :: l, b => by
    show (decide (tx b = c) && ee_q tx (b + 1) l) = true ↔ _
    rw [Bool.and_eq_true, decide_eq_true_iff, ee_q_at l (b + 1)]
    constructor
    · rintro ⟨h1, h2⟩ j hj
      cases j with
      | zero => exact h1
      | succ j =>
        have := h2 j (by have : j + 1 < l.length + 1 := hj; omega)
        rw [show b + (j + 1) = b + 1 + j by omega]
        exact this
    · intro h
      refine ⟨h 0 (by show 0 < l.length + 1; omega), fun j hj => ?_⟩
      have := h (j + 1) (by show j + 1 < l.length + 1; omega)
      rw [show b + 1 + j = b + (j + 1) by omega]
      exact this
theorem ee_cA : ∀ i, i < 21 → ∀ j, j < eb_sln.getD i 0 → eb_cA i j = nI ((ee_str i).getD j 0) ∧ (ee_str i).getD j 0 < 256 := by decide +kernel
theorem ee_sl : ∀ i, i < 21 → (ee_str i).length = eb_sln.getD i 0 := by decide +kernel
theorem C_is {d : Nat} {h : eb_H} {Q : Option Value → eb_H → Prop} {tx : Nat → Nat} {n p : Nat} {F : Option (Int32 × Int32)} (ht : ∀ j, j < n → tx j < 256) (hn : n ≤ 900) (hp : p ≤ n) (t : ee_XT h tx n p F) (i : Nat) (hi : i < 21) (ko : eb_KO h) (q : Q (some (.int (if ee_is tx (ee_b tx n p) (ee_e tx n p) i = true then 1 else 0))) h) : eb_Ct (d + 4) 72 [.ref s_tape, .ref (eb_mk i 21 0)] h Q := by
  obtain ⟨x1, x2, x3, x4⟩ := ee_e_le tx hn hp
  have sl := ee_sl i hi
  have ll := eb_sln_lt i hi
  have key : ∀ (m j : Nat), j + m = eb_sln.getD i 0 → ee_e tx n p - ee_b tx n p = eb_sln.getD i 0 → (∀ j', j' < j → tx (ee_b tx n p + j') = (ee_str i).getD j' 0) → eb_Sn (d + 4) m_X7_is h 39 [(0, .ref s_tape), (1, .ref (eb_mk i 21 0)), (2, .int (nI j))] [] h Q := by
    intro m
    induction m with
    | zero =>
      intro j hj hl a
      refine b_X7_is_39 (d := d + 3) i _ hi ko (C_length (d := d + 2) i hi ko ⟨_, rfl, ko, fun _ => ?_, fun z => absurd (nI_le (by omega) (by omega)) z⟩)
      have : ee_is tx (ee_b tx n p) (ee_e tx n p) i = true := by
        unfold ee_is
        rw [Bool.and_eq_true, decide_eq_true_iff, sl]
        exact ⟨hl, (ee_q_at _ _).mpr (fun j' hj' => a j' (by rw [sl] at hj'; omega))⟩
      rw [if_pos this] at q
      exact q
    | succ m ih =>
      intro j hj hl a
      obtain ⟨c1, c2⟩ := ee_cA i hi j (by omega)
      have bj : ee_b tx n p + j < n := by omega
      have cl := ht _ bj
      refine b_X7_is_39 (d := d + 3) i _ hi ko (C_length (d := d + 2) i hi ko ⟨_, rfl, ko, fun z => absurd z (nI_ge (by omega) (by omega)), fun _ => ?_⟩)
      rw [t.2.1, nI_add, eb_cln (n := ee_b tx n p + j) (by omega), t.1.1 _ bj, ee_c255 _ cl, nI_1]
      refine ⟨vp_in_nI (by omega) (by omega), C_charAt (d := d) i j hi (by omega) ko ⟨_, rfl, ko, ?_⟩⟩
      rw [c1, nI_eq (by omega) (by omega)]
      refine ⟨fun z => ih (j + 1) (by omega) hl (fun j' hj' => ?_), fun z => ?_⟩
      · by_cases e : j' = j
        · rw [e]; exact z
        · exact a j' (by omega)
      · have : ¬ ee_is tx (ee_b tx n p) (ee_e tx n p) i = true := fun u => by
          unfold ee_is at u
          rw [Bool.and_eq_true] at u
          exact z ((ee_q_at _ _).mp u.2 j (by omega))
        rw [if_neg this] at q
        exact q
  refine T_X7_is (d := d + 3) i hi ko ?_
  rw [t.2.1, t.2.2.1]
  refine ⟨fun z => absurd z (nI_pos (by omega)), fun _ => ⟨fun z => absurd z (nI_nlt (a := 900) (by omega) (by omega)), fun _ => C_length (d := d + 2) i hi ko ⟨_, rfl, ko, ?_⟩⟩⟩
  rw [t.2.1, t.2.2.1, pk_sub x4, nI_eq (by omega) (by omega)]
  refine ⟨fun z => key _ 0 (Nat.zero_add _) z.symm (fun j' hj' => absurd hj' (by omega)), fun z => ?_⟩
  have : ¬ ee_is tx (ee_b tx n p) (ee_e tx n p) i = true := fun u => by
    unfold ee_is at u
    rw [Bool.and_eq_true, decide_eq_true_iff, sl] at u
    exact z u.1.symm
  rw [if_neg this] at q
  exact q
/-! what a token is: 0 .. 16 a word of the language, 22 another word, 23 a number, 24 the end, 25 none, 30 .. 41 a sign -/
def ee_kl : List Nat := [19, 6, 16, 18, 8, 11, 20, 5, 13, 17, 10, 9, 12, 7, 4, 15, 14]
def ee_key (tx : Nat → Nat) (b e : Nat) : Nat := if ee_kl.findIdx (fun i => ee_is tx b e i) < 17 then ee_kl.findIdx (fun i => ee_is tx b e i) else 22
def ee_k (tx : Nat → Nat) (n p : Nat) : Nat := if ee_so tx n (ee_b tx n p) = 0 then 24 else if ee_so tx n (ee_b tx n p) = 1 then ee_key tx (ee_b tx n p) (ee_e tx n p) else if ee_so tx n (ee_b tx n p) = 2 then (if 3 < ee_e tx n p - ee_b tx n p then 25 else 23) else if ee_so tx n (ee_b tx n p) = 3 then 30 + ee_sg (tx (ee_b tx n p)) else 25
theorem ee_key_lt (tx : Nat → Nat) (b e : Nat) : ee_key tx b e < 23 := by unfold ee_key; split <;> omega
theorem ee_so_6 (tx : Nat → Nat) (n b : Nat) : ee_so tx n b < 6 := by
  have := (ee_sc_n0 (tx b)).2
  unfold ee_so
  split <;> omega
theorem ee_so3 {tx : Nat → Nat} {n b : Nat} (h : ee_so tx n b = 3) : ee_sg (tx b) < 12 ∧ b < n := by
  have bn : b < n := by
    refine Classical.byContradiction fun z => ?_
    rw [ee_so_0 tx n b (by omega)] at h
    omega
  refine ⟨?_, bn⟩
  unfold ee_so at h
  rw [if_pos bn] at h
  unfold ee_sc at h
  by_cases a1 : tx b = 10 ∨ tx b = 32
  · rw [if_pos a1] at h; omega
  · rw [if_neg a1] at h
    by_cases a2 : 97 ≤ tx b ∧ tx b ≤ 122
    · rw [if_pos a2] at h; omega
    · rw [if_neg a2] at h
      by_cases a3 : 48 ≤ tx b ∧ tx b ≤ 57
      · rw [if_pos a3] at h; omega
      · rw [if_neg a3] at h
        by_cases a4 : ee_sg (tx b) < 12
        · exact a4
        · rw [if_neg a4] at h; omega
theorem ee_k_bad {tx : Nat → Nat} {n p : Nat} (hn : n ≤ 900) : ee_k tx n p = 25 ↔ ee_bad tx n p = true := by
  have b4 := (ee_b_n4 tx (p := p) hn).1
  have b6 := ee_so_6 tx n (ee_b tx n p)
  have kl := ee_key_lt tx (ee_b tx n p) (ee_e tx n p)
  unfold ee_k ee_bad
  rw [Bool.or_eq_true, Bool.and_eq_true, decide_eq_true_iff, decide_eq_true_iff, decide_eq_true_iff]
  by_cases a0 : ee_so tx n (ee_b tx n p) = 0
  · rw [if_pos a0]; omega
  · rw [if_neg a0]
    by_cases a1 : ee_so tx n (ee_b tx n p) = 1
    · rw [if_pos a1]; omega
    · rw [if_neg a1]
      by_cases a2 : ee_so tx n (ee_b tx n p) = 2
      · rw [if_pos a2]
        split <;> omega
      · rw [if_neg a2]
        by_cases a3 : ee_so tx n (ee_b tx n p) = 3
        · rw [if_pos a3]
          have := (ee_so3 a3).1
          omega
        · rw [if_neg a3]
          omega
theorem ee_k_23 {tx : Nat → Nat} {n p : Nat} (hn : n ≤ 900) : ee_k tx n p = 23 ↔ (ee_so tx n (ee_b tx n p) = 2 ∧ ¬ 3 < ee_e tx n p - ee_b tx n p) := by
  have b6 := ee_so_6 tx n (ee_b tx n p)
  have kl := ee_key_lt tx (ee_b tx n p) (ee_e tx n p)
  unfold ee_k
  by_cases a0 : ee_so tx n (ee_b tx n p) = 0
  · rw [if_pos a0]; omega
  · rw [if_neg a0]
    by_cases a1 : ee_so tx n (ee_b tx n p) = 1
    · rw [if_pos a1]; omega
    · rw [if_neg a1]
      by_cases a2 : ee_so tx n (ee_b tx n p) = 2
      · rw [if_pos a2]
        split <;> omega
      · rw [if_neg a2]
        by_cases a3 : ee_so tx n (ee_b tx n p) = 3
        · rw [if_pos a3]; omega
        · rw [if_neg a3]; omega
theorem ee_str_ne : ∀ r, r < 17 → ∀ r', r' < 17 → ee_str (ee_kl.getD r 0) = ee_str (ee_kl.getD r' 0) → r = r' := by decide +kernel
theorem ee_str_0 : ∀ r, r < 17 → 97 ≤ (ee_str (ee_kl.getD r 0)).getD 0 0 ∧ (ee_str (ee_kl.getD r 0)).getD 0 0 ≤ 122 ∧ 0 < (ee_str (ee_kl.getD r 0)).length := by decide +kernel
theorem ee_gd {l : List Nat} {k : Nat} (h : k < l.length) : l.getD k 0 = l[k] := by
  unfold List.getD
  rw [List.getElem?_eq_getElem h]
  rfl
theorem ee_is_u {tx : Nat → Nat} {b e i j : Nat} (a : ee_is tx b e i = true) (c : ee_is tx b e j = true) : ee_str i = ee_str j := by
  unfold ee_is at a c
  rw [Bool.and_eq_true, decide_eq_true_iff, ee_q_at] at a c
  apply List.ext_getElem
  · omega
  · intro k h1 h2
    have x := a.2 k h1
    have y := c.2 k h2
    rw [ee_gd h1] at x
    rw [ee_gd h2] at y
    omega
/-- a word of the language, as the class asks for it -/
theorem ee_is_k {tx : Nat → Nat} {n p : Nat} (hn : n ≤ 900) (r : Nat) (hr : r < 17) : ee_is tx (ee_b tx n p) (ee_e tx n p) (ee_kl.getD r 0) = true ↔ ee_k tx n p = r := by
  obtain ⟨w1, w2, w3⟩ := ee_str_0 r hr
  have hl : ee_kl.length = 17 := rfl
  constructor
  · intro h
    have h' := h
    unfold ee_is at h'
    rw [Bool.and_eq_true, decide_eq_true_iff, ee_q_at] at h'
    have t0 := h'.2 0 w3
    rw [Nat.add_zero] at t0
    have bn : ee_so tx n (ee_b tx n p) ≠ 0 := fun z => by
      have : ee_e tx n p = ee_b tx n p := by unfold ee_e ee_eb; rw [if_pos z]
      omega
    have s1 : ee_so tx n (ee_b tx n p) = 1 := by
      have pn : ee_b tx n p < n := by
        refine Classical.byContradiction fun z => bn (ee_so_0 tx n _ (by omega))
      unfold ee_so
      rw [if_pos pn]
      unfold ee_sc
      rw [if_neg (by omega), if_pos (by omega)]
    have fi : ee_kl.findIdx (fun i => ee_is tx (ee_b tx n p) (ee_e tx n p) i) < 17 := by
      rw [← hl, List.findIdx_lt_length]
      exact ⟨ee_kl.getD r 0, by rw [ee_gd (show r < ee_kl.length by omega)]; exact List.getElem_mem _, h⟩
    have fg := List.findIdx_getElem (p := fun i => ee_is tx (ee_b tx n p) (ee_e tx n p) i) (xs := ee_kl) (w := by omega)
    have e2 := ee_is_u h fg
    rw [← ee_gd (by omega)] at e2
    have := ee_str_ne r hr _ fi e2
    unfold ee_k
    rw [if_neg bn, if_pos s1]
    unfold ee_key
    rw [if_pos fi]
    exact this.symm
  · intro h
    unfold ee_k at h
    by_cases a0 : ee_so tx n (ee_b tx n p) = 0
    · rw [if_pos a0] at h; omega
    · rw [if_neg a0] at h
      by_cases a1 : ee_so tx n (ee_b tx n p) = 1
      · rw [if_pos a1] at h
        unfold ee_key at h
        by_cases fi : ee_kl.findIdx (fun i => ee_is tx (ee_b tx n p) (ee_e tx n p) i) < 17
        · rw [if_pos fi] at h
          have fg := List.findIdx_getElem (p := fun i => ee_is tx (ee_b tx n p) (ee_e tx n p) i) (xs := ee_kl) (w := by omega)
          rw [← ee_gd (by omega), h] at fg
          exact fg
        · rw [if_neg fi] at h; omega
      · rw [if_neg a1] at h
        by_cases a2 : ee_so tx n (ee_b tx n p) = 2
        · rw [if_pos a2] at h
          split at h <;> omega
        · rw [if_neg a2] at h
          split at h <;> omega
theorem ee_sg_at : ∀ c, c < 256 → ∀ r, r < 12 → (ee_sg c = r ↔ c = [59, 58, 43, 45, 42, 40, 41, 91, 93, 61, 60, 62].getD r 0) := by decide +kernel
/-- a sign -/
theorem ee_is_s {tx : Nat → Nat} {n p : Nat} (ht : ∀ j, j < n → tx j < 256) (hn : n ≤ 900) (i r : Nat) (hr : r < 12) (hs : ee_str i = [[59, 58, 43, 45, 42, 40, 41, 91, 93, 61, 60, 62].getD r 0]) (nsp : ee_sc ([59, 58, 43, 45, 42, 40, 41, 91, 93, 61, 60, 62].getD r 0) = 3) : ee_is tx (ee_b tx n p) (ee_e tx n p) i = true ↔ ee_k tx n p = 30 + r := by
  unfold ee_is
  rw [hs, Bool.and_eq_true, decide_eq_true_iff, ee_q_at]
  constructor
  · rintro ⟨h1, h2⟩
    have h1 : ee_e tx n p - ee_b tx n p = 1 := h1
    have t0 := h2 0 (by show 0 < 1; omega)
    have t0 : tx (ee_b tx n p) = [59, 58, 43, 45, 42, 40, 41, 91, 93, 61, 60, 62].getD r 0 := t0
    have bn : ee_so tx n (ee_b tx n p) ≠ 0 := fun z => by
      have : ee_e tx n p = ee_b tx n p := by unfold ee_e ee_eb; rw [if_pos z]
      omega
    have pn : ee_b tx n p < n := by
      refine Classical.byContradiction fun z => bn (ee_so_0 tx n _ (by omega))
    have s3 : ee_so tx n (ee_b tx n p) = 3 := by
      unfold ee_so
      rw [if_pos pn, t0]
      exact nsp
    have sg := (ee_sg_at _ (ht _ pn) r hr).mpr t0
    unfold ee_k
    rw [if_neg bn, if_neg (by omega), if_neg (by omega), if_pos s3, sg]
  · intro h
    have kl := ee_key_lt tx (ee_b tx n p) (ee_e tx n p)
    have b6 := ee_so_6 tx n (ee_b tx n p)
    have s3 : ee_so tx n (ee_b tx n p) = 3 := by
      unfold ee_k at h
      by_cases a0 : ee_so tx n (ee_b tx n p) = 0
      · rw [if_pos a0] at h; omega
      · rw [if_neg a0] at h
        by_cases a1 : ee_so tx n (ee_b tx n p) = 1
        · rw [if_pos a1] at h; omega
        · rw [if_neg a1] at h
          by_cases a2 : ee_so tx n (ee_b tx n p) = 2
          · rw [if_pos a2] at h
            split at h <;> omega
          · rw [if_neg a2] at h
            by_cases a3 : ee_so tx n (ee_b tx n p) = 3
            · exact a3
            · rw [if_neg a3] at h; omega
    obtain ⟨g1, pn⟩ := ee_so3 s3
    unfold ee_k at h
    rw [if_neg (by omega), if_neg (by omega), if_neg (by omega), if_pos s3] at h
    have tb := (ee_sg_at _ (ht _ pn) r hr).mp (by omega)
    refine ⟨?_, fun j hj => ?_⟩
    · have : ee_e tx n p = ee_b tx n p + 1 := by
        unfold ee_e ee_eb
        rw [if_neg (by omega), if_neg (by omega)]
      show _ = 1
      omega
    · have hj : j < 1 := hj
      rw [show j = 0 by omega, Nat.add_zero]
      exact tb
theorem ee_is_semi {tx : Nat → Nat} {n p : Nat} (ht : ∀ j, j < n → tx j < 256) (hn : n ≤ 900) : ee_is tx (ee_b tx n p) (ee_e tx n p) 2 = true ↔ ee_k tx n p = 30 := ee_is_s ht hn 2 0 (by decide) (by decide +kernel) (by decide)
theorem ee_is_colon {tx : Nat → Nat} {n p : Nat} (ht : ∀ j, j < n → tx j < 256) (hn : n ≤ 900) : ee_is tx (ee_b tx n p) (ee_e tx n p) 1 = true ↔ ee_k tx n p = 31 := ee_is_s ht hn 1 1 (by decide) (by decide +kernel) (by decide)
end EBKIND
