section EBCODE2
variable {L : Nat} {xs : Nat → Int32}
def ee_v (tx : Nat → Nat) (n p : Nat) : Nat := ee_vn tx (ee_b tx n p) (ee_e tx n p - ee_b tx n p)
/-- the class's code of a token (9999: none) -/
def ee_cc (tk : Bool) (k v : Nat) : Nat := if k = 23 then v else if k = 10 then 1000 else if k = 11 then 1001 else if k = 12 then 1002 else if k = 6 then 1003 else if k = 13 then 1004 else if k = 3 then (if tk = true then 1005 else 9999) else if k = 15 then 1020 else if k = 14 then 1030 else if k = 16 then 1040 else if k = 39 then 1050 else if k = 40 then 1051 else if k = 41 then 1052 else if k = 32 then 1060 else if k = 33 then 1061 else if k = 34 then 1070 else if k = 37 then 1010 else if k = 35 then 1011 else if k = 38 then 1080 else if k = 36 then 1081 else 9999
def ee_ci (c : Nat) : Int32 := if c = 9999 then -1 else nI c
theorem ee_i01 {P : Prop} [Decidable P] : ((if P then (1 : Int32) else 0) = 0) ↔ ¬ P := by
  by_cases h : P
  · rw [if_pos h]; exact ⟨fun z => absurd z (by decide), fun z => absurd h z⟩
  · rw [if_neg h]; exact ⟨fun _ => h, fun _ => rfl⟩
theorem C_isk {d : Nat} {h : eb_H} {Q : Option Value → eb_H → Prop} {tx : Nat → Nat} {n p : Nat} {F : Option (Int32 × Int32)} (ht : ∀ j, j < n → tx j < 256) (hn : n ≤ 900) (hp : p ≤ n) (t : ee_XT h tx n p F) (r i : Nat) (hr : r < 17) (hi : ee_kl.getD r 0 = i) (ko : eb_KO h) (q : Q (some (.int (if ee_k tx n p = r then 1 else 0))) h) : eb_Ct (d + 4) 72 [.ref s_tape, .ref (eb_mk i 21 0)] h Q := by
  have hi21 : ∀ r, r < 17 → ee_kl.getD r 0 < 21 := by decide
  refine C_is (d := d) ht hn hp t i (by rw [← hi]; exact hi21 r hr) ko ?_
  have := ee_is_k (tx := tx) (p := p) hn r hr
  rw [hi] at this
  by_cases z : ee_k tx n p = r
  · rw [if_pos (this.mpr z)]
    rw [if_pos z] at q
    exact q
  · rw [if_neg (fun u => z (this.mp u))]
    rw [if_neg z] at q
    exact q
theorem C_semi {d : Nat} {h : eb_H} {Q : Option Value → eb_H → Prop} {tx : Nat → Nat} {n p : Nat} {F : Option (Int32 × Int32)} (ht : ∀ j, j < n → tx j < 256) (hn : n ≤ 900) (hp : p ≤ n) (t : ee_XT h tx n p F) (ko : eb_KO h) (q : Q (some (.int (if ee_k tx n p = 30 then 1 else 0))) h) : eb_Ct (d + 4) 72 [.ref s_tape, .ref (eb_mk 2 21 0)] h Q := by
  refine C_is (d := d) ht hn hp t 2 (by decide) ko ?_
  by_cases z : ee_k tx n p = 30
  · rw [if_pos ((ee_is_semi ht hn).mpr z)]
    rw [if_pos z] at q
    exact q
  · rw [if_neg (fun u => z ((ee_is_semi ht hn).mp u))]
    rw [if_neg z] at q
    exact q
theorem C_colon {d : Nat} {h : eb_H} {Q : Option Value → eb_H → Prop} {tx : Nat → Nat} {n p : Nat} {F : Option (Int32 × Int32)} (ht : ∀ j, j < n → tx j < 256) (hn : n ≤ 900) (hp : p ≤ n) (t : ee_XT h tx n p F) (ko : eb_KO h) (q : Q (some (.int (if ee_k tx n p = 31 then 1 else 0))) h) : eb_Ct (d + 4) 72 [.ref s_tape, .ref (eb_mk 1 21 0)] h Q := by
  refine C_is (d := d) ht hn hp t 1 (by decide) ko ?_
  by_cases z : ee_k tx n p = 31
  · rw [if_pos ((ee_is_colon ht hn).mpr z)]
    rw [if_pos z] at q
    exact q
  · rw [if_neg (fun u => z ((ee_is_colon ht hn).mp u))]
    rw [if_neg z] at q
    exact q
theorem C_cow {d : Nat} {h : eb_H} {Q : Option Value → eb_H → Prop} {tx : Nat → Nat} {n p : Nat} {F : Option (Int32 × Int32)} (ht : ∀ j, j < n → tx j < 256) (hn : n ≤ 900) (hp : p ≤ n) (t : ee_XT h tx n p F) (tk : Bool) (x : Int32) (hx : x = 0 ↔ ¬ tk = true) (hk : ee_k tx n p < 23) (ko : eb_KO h) (q : ∀ c, c = ee_ci (ee_cc tk (ee_k tx n p) (ee_v tx n p)) → Q (some (.int c)) h) : eb_Ct (d + 5) 33 [.ref s_reader_laws, .int x] h Q := by
  have no : ee_k tx n p ≠ 10 → ee_k tx n p ≠ 11 → ee_k tx n p ≠ 12 → ee_k tx n p ≠ 6 → ee_k tx n p ≠ 13 → (ee_k tx n p = 3 → ¬ tk = true) → ee_k tx n p ≠ 15 → ee_k tx n p ≠ 14 → ee_k tx n p ≠ 16 → (-1 : Int32) = ee_ci (ee_cc tk (ee_k tx n p) (ee_v tx n p)) := by
    intro a1 a2 a3 a4 a5 a6 a7 a8 a9
    have : ee_cc tk (ee_k tx n p) (ee_v tx n p) = 9999 := by
      unfold ee_cc
      rw [if_neg (by omega), if_neg a1, if_neg a2, if_neg a3, if_neg a4, if_neg a5]
      by_cases z : ee_k tx n p = 3
      · rw [if_pos z, if_neg (a6 z)]
      · rw [if_neg z, if_neg a7, if_neg a8, if_neg a9]
        repeat rw [if_neg (by omega)]
    rw [this]
    rfl
  have lt := fun r (hr : r < 17) i (hi : ee_kl.getD r 0 = i) => C_isk (d := d) (Q := fun r' h' => r' = some (.int (if ee_k tx n p = r then 1 else 0)) ∧ h' = h) ht hn hp t r i hr hi ko ⟨rfl, rfl⟩
  have is := fun r (hr : r < 17) i (hi : ee_kl.getD r 0 = i) (Q' : Option Value → eb_H → Prop) (w : Q' (some (.int (if ee_k tx n p = r then 1 else 0))) h) => (lt r hr i hi).mono (Q' := Q') (fun r' h' z => by rw [z.1, z.2]; exact w)
  refine T_X3_codeOfWord (d := d + 4) _ ko (is 10 (by decide) 10 rfl _ ⟨_, rfl, ko, ?_⟩)
  rw [ee_i01]
  refine ⟨fun a1 => ?_, fun z => q _ (by rw [Decidable.not_not.mp z]; rfl)⟩
  refine is 11 (by decide) 9 rfl _ ⟨_, rfl, ko, ?_⟩
  rw [ee_i01]
  refine ⟨fun a2 => ?_, fun z => q _ (by rw [Decidable.not_not.mp z]; rfl)⟩
  refine is 12 (by decide) 12 rfl _ ⟨_, rfl, ko, ?_⟩
  rw [ee_i01]
  refine ⟨fun a3 => ?_, fun z => q _ (by rw [Decidable.not_not.mp z]; rfl)⟩
  refine is 6 (by decide) 20 rfl _ ⟨_, rfl, ko, ?_⟩
  rw [ee_i01]
  refine ⟨fun a4 => ?_, fun z => q _ (by rw [Decidable.not_not.mp z]; rfl)⟩
  refine is 13 (by decide) 7 rfl _ ⟨_, rfl, ko, ?_⟩
  rw [ee_i01]
  refine ⟨fun a5 => ?_, fun z => q _ (by rw [Decidable.not_not.mp z]; rfl)⟩
  refine is 3 (by decide) 18 rfl _ ⟨_, rfl, ko, ?_⟩
  rw [ee_i01]
  refine ⟨fun a6 => ?_, fun z => ⟨fun zx => ?_, fun zx => q _ ?_⟩⟩
  · refine is 15 (by decide) 15 rfl _ ⟨_, rfl, ko, ?_⟩
    rw [ee_i01]
    refine ⟨fun a7 => ?_, fun z => q _ (by rw [Decidable.not_not.mp z]; rfl)⟩
    refine is 14 (by decide) 4 rfl _ ⟨_, rfl, ko, ?_⟩
    rw [ee_i01]
    refine ⟨fun a8 => ?_, fun z => q _ (by rw [Decidable.not_not.mp z]; rfl)⟩
    refine is 16 (by decide) 14 rfl _ ⟨_, rfl, ko, q _ ?_⟩
    by_cases z : ee_k tx n p = 16
    · rw [if_pos z, if_neg (by decide), z]; rfl
    · rw [if_neg z, if_pos rfl]
      exact no a1 a2 a3 a4 a5 (fun u => absurd u a6) a7 a8 z
  · have z := Decidable.not_not.mp z
    have ntk := hx.mp zx
    refine is 15 (by decide) 15 rfl _ ⟨_, rfl, ko, ?_⟩
    rw [ee_i01]
    refine ⟨fun a7 => ?_, fun y => absurd (Decidable.not_not.mp y) (by omega)⟩
    refine is 14 (by decide) 4 rfl _ ⟨_, rfl, ko, ?_⟩
    rw [ee_i01]
    refine ⟨fun a8 => ?_, fun y => absurd (Decidable.not_not.mp y) (by omega)⟩
    refine is 16 (by decide) 14 rfl _ ⟨_, rfl, ko, q _ ?_⟩
    rw [if_neg (show ¬ ee_k tx n p = 16 by omega), if_pos rfl]
    exact no a1 a2 a3 a4 a5 (fun _ => ntk) a7 a8 (by omega)
  · have z := Decidable.not_not.mp z
    have tkt : tk = true := Decidable.not_not.mp (fun u => zx (hx.mpr u))
    rw [z, tkt]
    rfl
theorem ee_sgc : ∀ c, c < 256 → ee_sg c < 12 → ∀ v, (if c = 40 then (1011 : Int32) else if c = 41 then 1081 else if c = 42 then 1070 else if c = 43 then 1060 else if c = 45 then 1061 else if c = 60 then 1051 else if c = 61 then 1050 else if c = 62 then 1052 else if c = 91 then 1010 else if c = 93 then 1080 else -1) = ee_ci (ee_cc false (30 + ee_sg c) v) ∧ ee_cc false (30 + ee_sg c) v = ee_cc true (30 + ee_sg c) v := by
  intro c hc hs v
  have key : ∀ c, c < 256 → ee_sg c < 12 → (c = 59 ∨ c = 58 ∨ c = 43 ∨ c = 45 ∨ c = 42 ∨ c = 40 ∨ c = 41 ∨ c = 91 ∨ c = 93 ∨ c = 61 ∨ c = 60 ∨ c = 62) := by decide +kernel
  rcases key c hc hs with rfl | rfl | rfl | rfl | rfl | rfl | rfl | rfl | rfl | rfl | rfl | rfl <;> exact ⟨rfl, rfl⟩
theorem C_cah {d : Nat} {h : eb_H} {Q : Option Value → eb_H → Prop} {tx : Nat → Nat} {n p : Nat} {F : Option (Int32 × Int32)} (ht : ∀ j, j < n → tx j < 256) (hn : n ≤ 900) (hp : p ≤ n) (t : ee_XT h tx n p F) (tk : Bool) (x : Int32) (hx : x = 0 ↔ ¬ tk = true) (nb : ee_k tx n p ≠ 25) (ko : eb_KO h) (q : Q (some (.int (ee_ci (ee_cc tk (ee_k tx n p) (ee_v tx n p))))) h) : eb_Ct (d + 6) 31 [.ref s_reader_laws, .int x] h Q := by
  obtain ⟨e1, e2, e3, e4⟩ := ee_e_le tx hn hp
  have b6 := ee_so_6 tx n (ee_b tx n p)
  have b4 := (ee_b_n4 tx (p := p) hn).1
  have kl := ee_key_lt tx (ee_b tx n p) (ee_e tx n p)
  have k1 : nI (ee_so tx n (ee_b tx n p)) = (1 : Int32) ↔ ee_so tx n (ee_b tx n p) = 1 := nI_eq (b := 1) (by omega) (by omega)
  have k2 : nI (ee_so tx n (ee_b tx n p)) = (2 : Int32) ↔ ee_so tx n (ee_b tx n p) = 2 := nI_eq (b := 2) (by omega) (by omega)
  have k3 : nI (ee_so tx n (ee_b tx n p)) = (3 : Int32) ↔ ee_so tx n (ee_b tx n p) = 3 := nI_eq (b := 3) (by omega) (by omega)
  refine T_X3_codeAtHand (d := d + 5) _ ko ?_
  rw [t.2.2.2.1, k1, k2, k3]
  refine ⟨fun z => ?_, fun z => ?_, fun z => ?_, fun z1 z2 z3 => ?_⟩
  · refine C_cow (d := d) ht hn hp t tk x hx ?_ ko (fun c hc => ⟨_, rfl, ko, ?_⟩)
    · unfold ee_k
      rw [if_neg (by omega), if_pos z]
      exact kl
    · rw [hc]; exact q
  · have k23 : ee_k tx n p = 23 := by
      have : ¬ 3 < ee_e tx n p - ee_b tx n p := fun u => nb (by
        unfold ee_k
        rw [if_neg (by omega), if_neg (by omega), if_pos z, if_pos u])
      exact (ee_k_23 hn).mpr ⟨z, this⟩
    rw [t.2.2.2.2.1 z]
    rw [k23] at q
    have vl : ee_v tx n p ≠ 9999 := by
      obtain ⟨_, le3⟩ := (ee_k_23 hn).mp k23
      have dg : ∀ k, k ≤ ee_e tx n p - ee_b tx n p → ee_vn tx (ee_b tx n p) k < 10 ^ k := by
        intro k
        induction k with
        | zero => intro _; show 0 < 1; omega
        | succ k ih =>
          intro hk
          have := ih (by omega)
          have so2 : ee_so tx n (ee_b tx n p + k) = 2 := by
            by_cases k0 : k = 0
            · rw [k0, Nat.add_zero]; exact z
            · have ee : ee_e tx n p = ee_run (ee_so tx n) 2 901 (ee_b tx n p + 1) := by
                unfold ee_e ee_eb
                rw [if_neg (by omega), if_pos (Or.inr z), z]
              exact ee_run_in 901 (ee_b tx n p + 1) (ee_b tx n p + k) (by omega) (by omega)
          have d9 := (ee_so2 so2).2
          show 10 * ee_vn tx (ee_b tx n p) k + (tx (ee_b tx n p + k) - 48) < 10 ^ (k + 1)
          rw [Nat.pow_succ]
          omega
      have := dg _ (Nat.le_refl _)
      have p3 : 10 ^ (ee_e tx n p - ee_b tx n p) ≤ 10 ^ 3 := Nat.pow_le_pow_right (by decide) (by omega)
      have p4 : (10 : Nat) ^ 3 = 1000 := by decide
      unfold ee_v
      omega
    have e5 : ee_ci (ee_cc tk 23 (ee_v tx n p)) = nI (ee_v tx n p) := if_neg vl
    rw [e5] at q
    exact q
  · obtain ⟨g1, bn⟩ := ee_so3 z
    have cl := ht _ bn
    have ek : ee_k tx n p = 30 + ee_sg (tx (ee_b tx n p)) := by
      unfold ee_k
      rw [if_neg (by omega), if_neg (by omega), if_neg (by omega), if_pos z]
    obtain ⟨s1, s2⟩ := ee_sgc (tx (ee_b tx n p)) cl g1 (ee_v tx n p)
    have e7 : ee_ci (ee_cc tk (ee_k tx n p) (ee_v tx n p)) = (if tx (ee_b tx n p) = 40 then (1011 : Int32) else if tx (ee_b tx n p) = 41 then 1081 else if tx (ee_b tx n p) = 42 then 1070 else if tx (ee_b tx n p) = 43 then 1060 else if tx (ee_b tx n p) = 45 then 1061 else if tx (ee_b tx n p) = 60 then 1051 else if tx (ee_b tx n p) = 61 then 1050 else if tx (ee_b tx n p) = 62 then 1052 else if tx (ee_b tx n p) = 91 then 1010 else if tx (ee_b tx n p) = 93 then 1080 else -1) := by
      rw [ek, s1]
      cases tk with
      | true => rw [s2]
      | false => rfl
    rw [e7] at q
    have s3 : eb_I h s_tape 5 = (3 : Int32) := by rw [t.2.2.2.1]; exact k3.mpr z
    refine T_X7_sign ko ⟨fun u => absurd s3 u, fun _ => ?_⟩
    rw [t.2.1, eb_cln (n := ee_b tx n p) (by omega), t.1.1 _ bn, ee_c255 _ cl, ee_ch cl]
    refine ⟨fun u => absurd u (nI_pos (by omega)), fun _ => ⟨fun u => absurd u (nI_ge (b := 900) (by omega) (by omega)), fun _ => ⟨vp_in_nI (by omega) (by omega), (pk_charN (by omega)).1, _, rfl, ko, ?_⟩⟩⟩
    generalize tx (ee_b tx n p) = c at *
    have ec : ∀ m : Nat, m < 256 → (nI c = nI m ↔ c = m) := fun m hm => nI_eq (by omega) (by omega)
    refine T_X3_codeOfSign _ ko ⟨fun u => ⟨_, rfl, ko, ?_⟩, fun u => ⟨_, rfl, ko, ?_⟩, fun u => ⟨_, rfl, ko, ?_⟩, fun u => ⟨_, rfl, ko, ?_⟩, fun u => ⟨_, rfl, ko, ?_⟩, fun u => ⟨_, rfl, ko, ?_⟩, fun u => ⟨_, rfl, ko, ?_⟩, fun u => ⟨_, rfl, ko, ?_⟩, fun u => ⟨_, rfl, ko, ?_⟩, fun u => ⟨_, rfl, ko, ?_⟩, fun u1 u2 u3 u4 u5 u6 u7 u8 u9 u10 => ⟨_, rfl, ko, ?_⟩⟩
    · rw [(ec 40 (by omega)).mp u] at q; exact q
    · rw [(ec 41 (by omega)).mp u] at q; exact q
    · rw [(ec 42 (by omega)).mp u] at q; exact q
    · rw [(ec 43 (by omega)).mp u] at q; exact q
    · rw [(ec 45 (by omega)).mp u] at q; exact q
    · rw [(ec 60 (by omega)).mp u] at q; exact q
    · rw [(ec 61 (by omega)).mp u] at q; exact q
    · rw [(ec 62 (by omega)).mp u] at q; exact q
    · rw [(ec 91 (by omega)).mp u] at q; exact q
    · rw [(ec 93 (by omega)).mp u] at q; exact q
    · rw [if_neg (fun y => u1 ((ec 40 (by omega)).mpr y)), if_neg (fun y => u2 ((ec 41 (by omega)).mpr y)), if_neg (fun y => u3 ((ec 42 (by omega)).mpr y)), if_neg (fun y => u4 ((ec 43 (by omega)).mpr y)), if_neg (fun y => u5 ((ec 45 (by omega)).mpr y)), if_neg (fun y => u6 ((ec 60 (by omega)).mpr y)), if_neg (fun y => u7 ((ec 61 (by omega)).mpr y)), if_neg (fun y => u8 ((ec 62 (by omega)).mpr y)), if_neg (fun y => u9 ((ec 91 (by omega)).mpr y)), if_neg (fun y => u10 ((ec 93 (by omega)).mpr y))] at q
      exact q
  · have k24 : ee_k tx n p = 24 := by
      unfold ee_k
      by_cases a0 : ee_so tx n (ee_b tx n p) = 0
      · rw [if_pos a0]
      · exfalso
        apply nb
        unfold ee_k
        rw [if_neg a0, if_neg z1, if_neg z2, if_neg z3]
    rw [k24] at q
    exact q
end EBCODE2
