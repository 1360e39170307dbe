section EBCOUNT
variable {L : Nat} {xs : Nat → Int32}
/-! ===== how many flights: sums against any weight ===== -/
theorem ed_sum_0 {f : Nat → Nat} : ∀ n, (∀ k, k < n → f k = 0) → ec_sum f n = 0
  | 0, _ => rfl
  | n + 1, h => by
    show ec_sum f n + f n = 0
    rw [ed_sum_0 n (fun k hk => h k (by omega)), h n (by omega)]
theorem ed_sum_ge {f : Nat → Nat} {q : Nat} : ∀ n, q < n → f q ≤ ec_sum f n
  | 0, h => by omega
  | n + 1, h => by
    show f q ≤ ec_sum f n + f n
    by_cases e : q = n
    · rw [e]; omega
    · have := ed_sum_ge (f := f) (q := q) n (by omega)
      omega
theorem ed_sum_up {b B : Nat → Nat} {t x : Nat} : ∀ n, t < n → ec_sum (fun q => ec_up b t (b t + x) q * B q) n = ec_sum (fun q => b q * B q) n + x * B t
  | 0, h => by omega
  | n + 1, h => by
    show ec_sum (fun q => ec_up b t (b t + x) q * B q) n + ec_up b t (b t + x) n * B n = ec_sum (fun q => b q * B q) n + b n * B n + x * B t
    by_cases e : t = n
    · subst e
      rw [ec_sum_cg t (f := fun q => ec_up b t (b t + x) q * B q) (f' := fun q => b q * B q) (fun k hk => by show ec_up b t (b t + x) k * B k = b k * B k; rw [ec_up_n (by omega)]), ec_up_s, Nat.add_mul]
      omega
    · rw [ed_sum_up n (by omega), ec_up_n (fun z => e z.symm)]
      omega
theorem ed_sum_dl {B : Nat → Nat} {t : Nat} : ∀ n, ec_sum (fun q => (if q = t then 1 else 0) * B q) n = if t < n then B t else 0
  | 0 => rfl
  | n + 1 => by
    show ec_sum (fun q => (if q = t then 1 else 0) * B q) n + (if n = t then 1 else 0) * B n = _
    rw [ed_sum_dl n]
    by_cases e : n = t
    · subst e
      rw [if_neg (by omega), if_pos rfl, if_pos (by omega)]
      omega
    · rw [if_neg e]
      by_cases z : t < n
      · rw [if_pos z, if_pos (by omega)]; omega
      · rw [if_neg z, if_neg (by omega)]; omega
def ed_M (nx : Nat → Nat → Option Nat) (B : Nat → Nat) (q : Nat) : Nat → Nat
  | 0 => 0
  | y + 1 => ed_M nx B q y + (match nx q y with
    | some t => B t
    | none => 0)
def ed_Mn (nx : Nat → Nat → Option Nat) (B : Nat → Nat) : Nat → Nat → Nat
  | 0 => B
  | n + 1 => fun q => ed_M nx (ed_Mn nx B n) q 4
theorem ed_Mn_c (nx : Nat → Nat → Option Nat) (B : Nat → Nat) : ∀ n, ed_Mn nx (fun q => ed_M nx B q 4) n = ed_Mn nx B (n + 1)
  | 0 => rfl
  | n + 1 => by
    show (fun q => ed_M nx (ed_Mn nx (fun q => ed_M nx B q 4) n) q 4) = fun q => ed_M nx (ed_Mn nx B (n + 1)) q 4
    rw [ed_Mn_c nx B n]
theorem ed_M_le {nx : Nat → Nat → Option Nat} {B : Nat → Nat} {c q : Nat} (h : ∀ t, B t ≤ c) : ∀ y, ed_M nx B q y ≤ y * c
  | 0 => by show 0 ≤ _; omega
  | y + 1 => by
    have ih := ed_M_le (nx := nx) (q := q) h y
    show ed_M nx B q y + (match nx q y with
      | some t => B t
      | none => 0) ≤ _
    rw [Nat.add_mul, Nat.one_mul]
    cases nx q y with
    | none => dsimp only; omega
    | some t => have := h t; dsimp only; omega
theorem ed_Mn_le {nx : Nat → Nat → Option Nat} {B : Nat → Nat} {c : Nat} (h : ∀ t, B t ≤ c) : ∀ n q, ed_Mn nx B n q ≤ 4 ^ n * c
  | 0, q => by have := h q; show B q ≤ 1 * c; omega
  | n + 1, q => by
    have := ed_M_le (nx := nx) (B := ed_Mn nx B n) (c := 4 ^ n * c) (q := q) (fun t => ed_Mn_le h n t) 4
    rw [Nat.pow_succ, Nat.mul_comm (4 ^ n) 4, Nat.mul_assoc]
    exact this
/-! the class's rows -/
theorem ed_on_cnt {nx : Nat → Nat → Option Nat} {jn : Int64 → Int64 → Nat → Nat → Int64} {A Bf : Nat → Int64} {a b : Nat → Nat} {k : Nat} (hj : ∀ x0 x2 y c, jn x0 x2 y c = x0 + x2) (hA : A k = lN (a k)) (hx : ∀ y t, nx k y = some t → t < 1024) (hB : ∀ q, q < 1024 → Bf q = lN (b q)) : ∀ y, ∃ b' : Nat → Nat, (∀ q, q < 1024 → ed_on nx jn A k Bf y q = lN (b' q)) ∧ ∀ B : Nat → Nat, ec_sum (fun q => b' q * B q) 1024 = ec_sum (fun q => b q * B q) 1024 + a k * ed_M nx B k y := by
  intro y
  induction y with
  | zero =>
    refine ⟨b, hB, fun B => ?_⟩
    have : ed_M nx B k 0 = 0 := rfl
    rw [this, Nat.mul_zero, Nat.add_zero]
  | succ y ih =>
    obtain ⟨b', h1, h2⟩ := ih
    have ho : ed_on nx jn A k Bf (y + 1) = ed_o1 nx jn A k (ed_on nx jn A k Bf y) y := rfl
    have hM : ∀ B, ed_M nx B k (y + 1) = ed_M nx B k y + (match nx k y with
      | some t => B t
      | none => 0) := fun B => rfl
    cases hn : nx k y with
    | none =>
      refine ⟨b', fun q hq => ?_, fun B => ?_⟩
      · rw [ho]
        unfold ed_o1
        rw [hn]
        exact h1 q hq
      · rw [hM, hn]
        exact h2 B
    | some t =>
      have ht := hx y t hn
      refine ⟨ec_up b' t (b' t + a k), fun q hq => ?_, fun B => ?_⟩
      · rw [ho]
        unfold ed_o1
        rw [hn]
        dsimp only
        by_cases e : q = t
        · rw [if_pos e, e, ec_up_s, hj, h1 t ht, hA, lN_add]
        · rw [if_neg e, ec_up_n e]; exact h1 q hq
      · rw [hM, hn, ed_sum_up 1024 ht, h2 B, Nat.mul_add, Nat.add_assoc]
theorem ed_al_cnt {nx : Nat → Nat → Option Nat} {jn : Int64 → Int64 → Nat → Nat → Int64} {A : Nat → Int64} {a : Nat → Nat} {P : Nat → Prop} (hj : ∀ x0 x2 y c, jn x0 x2 y c = x0 + x2) (hA : ∀ q, q < 1024 → A q = lN (a q) ∧ a q < 2 ^ 31) (hP : ∀ q, A q ≠ 0 → P q) (hx : ∀ q y t, P q → nx q y = some t → t < 1024) : ∀ k, k ≤ 1024 → ∃ b : Nat → Nat, (∀ q, q < 1024 → ed_al nx jn 0 A k q = lN (b q)) ∧ ∀ B : Nat → Nat, ec_sum (fun q => b q * B q) 1024 = ec_sum (fun q => a q * ed_M nx B q 4) k := by
  intro k
  induction k with
  | zero =>
    intro _
    refine ⟨fun _ => 0, fun q _ => rfl, fun B => ?_⟩
    have e0 : ec_sum (fun q => (fun _ => 0) q * B q) 1024 = 0 := ed_sum_0 1024 (fun k _ => Nat.zero_mul (B k))
    rw [e0]
    rfl
  | succ k ih =>
    intro hk
    obtain ⟨b, h1, h2⟩ := ih (by omega)
    have hs : ∀ B, ec_sum (fun q => a q * ed_M nx B q 4) (k + 1) = ec_sum (fun q => a q * ed_M nx B q 4) k + a k * ed_M nx B k 4 := fun B => rfl
    by_cases e : A k = 0
    · have ea : ed_al nx jn 0 A (k + 1) = ed_al nx jn 0 A k := if_pos e
      obtain ⟨x1, x2⟩ := hA k (by omega)
      have a0 : a k = 0 := by
        rw [x1] at e
        exact (lN_eq (b := 0) x2 (by omega)).mp e
      refine ⟨b, fun q hq => by rw [ea]; exact h1 q hq, fun B => ?_⟩
      rw [hs, a0, Nat.zero_mul]
      exact h2 B
    · have ea : ed_al nx jn 0 A (k + 1) = ed_on nx jn A k (ed_al nx jn 0 A k) 4 := if_neg e
      obtain ⟨b', g1, g2⟩ := ed_on_cnt hj (hA k (by omega)).1 (fun y t hn => hx k y t (hP k e) hn) h1 4
      refine ⟨b', fun q hq => by rw [ea]; exact g1 q hq, fun B => ?_⟩
      rw [hs, g2 B, h2 B]
theorem ed_it_cnt {nx : Nat → Nat → Option Nat} {jn : Int64 → Int64 → Nat → Nat → Int64} {P : Nat → Prop} {q0 : Nat} (hj : ∀ x0 x2 y c, jn x0 x2 y c = x0 + x2) (h0 : q0 < 1024) (hP : ∀ n q, ed_it nx jn 0 (fun q => if q = q0 then 1 else 0) n q ≠ 0 → P q) (hx : ∀ q y t, P q → nx q y = some t → t < 1024) : ∀ n, n ≤ 12 → ∃ a : Nat → Nat, (∀ q, q < 1024 → ed_it nx jn 0 (fun q => if q = q0 then 1 else 0) n q = lN (a q) ∧ a q < 2 ^ 31) ∧ ∀ B : Nat → Nat, ec_sum (fun q => a q * B q) 1024 = ed_Mn nx B n q0 := by
  intro n
  induction n with
  | zero =>
    intro _
    refine ⟨fun q => if q = q0 then 1 else 0, fun q hq => ?_, fun B => ?_⟩
    · show (if q = q0 then (1 : Int64) else 0) = lN (if q = q0 then 1 else 0) ∧ (if q = q0 then 1 else 0) < 2 ^ 31
      by_cases e : q = q0
      · rw [if_pos e, if_pos e]; exact ⟨rfl, by omega⟩
      · rw [if_neg e, if_neg e]; exact ⟨rfl, by omega⟩
    · rw [ed_sum_dl 1024, if_pos h0]
      rfl
  | succ n ih =>
    intro hn
    obtain ⟨a, h1, h2⟩ := ih (by omega)
    obtain ⟨b, g1, g2⟩ := ed_al_cnt hj h1 (hP n) hx 1024 (Nat.le_refl _)
    have g3 : ∀ B, ec_sum (fun q => b q * B q) 1024 = ed_Mn nx B (n + 1) q0 := fun B => by
      rw [g2 B, h2, ed_Mn_c]
    refine ⟨b, fun q hq => ⟨g1 q hq, ?_⟩, g3⟩
    have s1 : ec_sum (fun q => b q * 1) 1024 = ed_Mn nx (fun _ => 1) (n + 1) q0 := g3 (fun _ => 1)
    have s3 : b q * 1 ≤ ec_sum (fun q => b q * 1) 1024 := ed_sum_ge (f := fun q => b q * 1) (q := q) 1024 hq
    rw [s1, Nat.mul_one] at s3
    have s2 := ed_Mn_le (nx := nx) (B := fun _ => 1) (c := 1) (fun _ => Nat.le_refl _) (n + 1) q0
    have s4 : 4 ^ (n + 1) ≤ 4 ^ 12 := Nat.pow_le_pow_right (by decide) hn
    rw [Nat.mul_one] at s2
    exact Nat.lt_of_le_of_lt (Nat.le_trans s3 (Nat.le_trans s2 s4)) (by decide)
/-- over stands -/
def ed_nxs (V : eb_Va) (s : eb_St) (D : Nat) (st : Bool) (n y : Nat) : Option Nat := match ec_g V s D n y with
  | some m => some m
  | none => if st = true then some n else none
theorem ed_nxs_lt {V : eb_Va} {s : eb_St} {D n y t : Nat} {st : Bool} (ok : eb_okV V) (os : eb_okS V s) (hn : n < 64 * (V.R * V.W)) (h : ed_nxs V s D st n y = some t) : t < 64 * (V.R * V.W) := by
  unfold ed_nxs at h
  cases hg : ec_g V s D n y with
  | none =>
    rw [hg] at h
    dsimp only at h
    split at h
    · cases h; exact hn
    · cases h
  | some m =>
    rw [hg] at h
    cases h
    exact ec_g_lt ok os hn hg
theorem ed_Mn_sd {V : eb_Va} {s : eb_St} {D : Nat} {st : Bool} (ok : eb_okV V) (os : eb_okS V s) (B : Nat → Nat) : ∀ n k, k < 64 * (V.R * V.W) → ed_Mn (ed_nxc V s D st) (fun q => B (ed_sd q)) n (ec_cd k) = ed_Mn (ed_nxs V s D st) B n k := by
  have r10 := ok.RW.2.2.2.2.2.2.2.2.2.1
  intro n
  induction n with
  | zero =>
    intro k hk
    show B (ed_sd (ec_cd k)) = B k
    rw [ed_sd_cd (by omega)]
  | succ n ih =>
    intro k hk
    show ed_M (ed_nxc V s D st) (ed_Mn (ed_nxc V s D st) (fun q => B (ed_sd q)) n) (ec_cd k) 4 = ed_M (ed_nxs V s D st) (ed_Mn (ed_nxs V s D st) B n) k 4
    have key : ∀ y, ed_M (ed_nxc V s D st) (ed_Mn (ed_nxc V s D st) (fun q => B (ed_sd q)) n) (ec_cd k) y = ed_M (ed_nxs V s D st) (ed_Mn (ed_nxs V s D st) B n) k y := by
      intro y
      induction y with
      | zero => rfl
      | succ y ihy =>
        show ed_M (ed_nxc V s D st) (ed_Mn (ed_nxc V s D st) (fun q => B (ed_sd q)) n) (ec_cd k) y + (match ed_nxc V s D st (ec_cd k) y with
          | some t => ed_Mn (ed_nxc V s D st) (fun q => B (ed_sd q)) n t
          | none => 0) = ed_M (ed_nxs V s D st) (ed_Mn (ed_nxs V s D st) B n) k y + (match ed_nxs V s D st k y with
          | some t => ed_Mn (ed_nxs V s D st) B n t
          | none => 0)
        rw [ihy]
        congr 1
        unfold ed_nxc ed_nxs
        rw [ed_sd_cd (by omega)]
        cases hg : ec_g V s D k y with
        | none =>
          dsimp only
          by_cases z : st = true
          · rw [if_pos z, if_pos z]
            exact ih k hk
          · rw [if_neg z, if_neg z]
        | some m =>
          exact ih m (ec_g_lt ok os hk hg)
    exact key 4
theorem ed_fyc {w : eb_Wo} (ok : eb_okW w) (sort : Int32) (hs : sort = 0 ∨ sort = 1) (st : Bool) (n : Nat) (hn : n ≤ 12) : ∃ a : Nat → Nat, (∀ q, q < 1024 → ed_fy w sort st n q = lN (a q) ∧ a q < 2 ^ 31) ∧ ∀ B : Nat → Nat, ec_sum (fun q => a q * B (ed_sd q)) 1024 = ed_Mn (ed_nxs w.va w.now w.now.D st) B n (64 * w.now.b + w.now.e) := by
  obtain ⟨r1, r2, r3, r4, r5, r6, r7, r8, r9, r10, _⟩ := ok.va.RW
  obtain ⟨n1, n2, n3, n4, n5, n6, n7⟩ := ok.now.N ok.va
  have e0 : ed_non sort = 0 := by rcases hs with rfl | rfl <;> decide
  have e1 : ed_sta sort = 1 := by rcases hs with rfl | rfl <;> decide
  have hj : ∀ x0 x2 y c, ed_jn sort x0 x2 y c = x0 + x2 := fun x0 x2 y c => by
    unfold ed_jn
    rcases hs with rfl | rfl
    · rw [if_neg (by decide), if_neg (by decide)]
    · rw [if_neg (by decide), if_neg (by decide)]
  have V := ed_fyV ok sort st
  unfold ed_fy at V ⊢
  rw [e0, e1] at V ⊢
  obtain ⟨a, h1, h2⟩ := ed_it_cnt (P := fun q => q < 1024 ∧ q % 16 < w.va.R * w.va.W) hj (ec_cd_lt (show 64 * w.now.b + w.now.e < 1024 by omega)) V (fun q y t pq hn => by
    unfold ed_nxc at hn
    cases hg : ec_g w.va w.now w.now.D (ed_sd q) y with
    | none =>
      rw [hg] at hn
      dsimp only at hn
      split at hn
      · cases hn; exact pq.1
      · cases hn
    | some m0 =>
      rw [hg] at hn
      cases hn
      have hm0 := ec_g_lt ok.va ok.now (n := ed_sd q) (by unfold ed_sd; omega) hg
      exact ec_cd_lt (by omega)) n hn
  exact ⟨a, h1, fun B => by rw [h2 (fun q => B (ed_sd q)), ed_Mn_sd ok.va ok.now B n _ (by omega)]⟩
/-! goals as weights -/
def ed_gi (c a b n : Nat) : Nat := if n / 64 = c ∧ (n % 64) &&& a = a ∧ (n % 64) &&& b = 0 then 1 else 0
theorem ed_gi_1 {c a b n : Nat} (h : ec_goal c a b n) : ed_gi c a b n = 1 := if_pos h
theorem ed_gi_0 {c a b n : Nat} (h : ¬ ec_goal c a b n) : ed_gi c a b n = 0 := if_neg h
theorem ed_gi_le (c a b n : Nat) : ed_gi c a b n ≤ 1 := by unfold ed_gi; split <;> omega
theorem C_ao {d : Nat} {h : eb_H} {Q : Option Value → eb_H → Prop} {r : Nat} {A : Nat → Int64} {a : Nat → Nat} (hr : eb_R h s_flights 10 = some r ∧ eb_kd r = 14 ∧ eb_ln r = 1024) (hJ : ∀ q, q < 1024 → eb_J h r q = A q) (hA : ∀ q, q < 1024 → A q = lN (a q) ∧ a q < 2 ^ 31) (c wi wo : Nat) (hc : c < 16) (hw : wi < 64) (ho : wo < 64) (ko : eb_KO h) (q : Q (some (.long (lN (ec_sum (fun q => a q * ed_gi c wi wo (ed_sd q)) 1024)))) h) : eb_Ct (d + 2) 22 [.ref s_flights, .int (nI c), .int (nI wi), .int (nI wo)] h Q := by
  have key : ∀ (m k : Nat), k + m = 1024 → eb_Sn (d + 2) m_X1_amountOf h 6 [(0, .ref s_flights), (1, .int (nI c)), (2, .int (nI wi)), (3, .int (nI wo)), (4, .long (lN (ec_sum (fun q => a q * ed_gi c wi wo (ed_sd q)) k))), (6, .int (nI k))] [] h Q := by
    intro m
    induction m with
    | zero =>
      intro k hk
      have hk : k = 1024 := by omega
      subst hk
      exact b_X1_amountOf_6 (d := d) _ _ _ _ _ ko ⟨fun _ => q, fun z => absurd (by decide) z⟩
    | succ m ih =>
      intro k hk
      have gx := ec_glX (c := c) (a := wi) (b := wo) (n := ed_sd k) (by unfold ed_sd; omega) hc hw ho
      rw [ed_cd_sd (by omega)] at gx
      have hs : Unit → ec_sum (fun q => a q * ed_gi c wi wo (ed_sd q)) (k + 1) = ec_sum (fun q => a q * ed_gi c wi wo (ed_sd q)) k + a k * ed_gi c wi wo (ed_sd k) := fun _ => rfl
      have nx := ih (k + 1) (by omega)
      rw [hs ()] at nx
      refine b_X1_amountOf_6 (d := d) _ _ _ _ _ ko ?_
      rw [gx, eb_cln (n := k) (by omega), nI_1]
      refine ⟨fun z => absurd z (nI_ge (a := k) (b := 1024) (by omega) (by omega)), fun _ => ⟨fun z => ?_, fun z => ⟨r, hr.1, hr.2.1, by rw [hr.2.2]; exact vp_in_nI (by omega) (by omega), ?_⟩⟩⟩
      · rw [ed_gi_0 z, Nat.mul_zero, Nat.add_zero] at nx
        exact nx
      · rw [ed_gi_1 z, Nat.mul_one] at nx
        rw [hJ k (by omega), (hA k (by omega)).1, lN_add]
        exact nx
  exact T_X1_amountOf (d := d) _ _ _ ko (key 1024 0 (by omega))
end EBCOUNT
