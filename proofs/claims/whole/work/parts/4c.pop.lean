section EBPOP
/-! counting the bits of 64, byte by byte -/
theorem ec_tb8 (q : Nat) {b : Nat} (hb : b < 256) (i : Nat) : (256 * q + b).testBit i = if i < 8 then b.testBit i else q.testBit (i - 8) := Nat.testBit_two_pow_mul_add q (i := 8) hb i
theorem ec_sh8 (x k i : Nat) : (x / 2 ^ k).testBit i = x.testBit (k + i) := by
  rw [← Nat.shiftRight_eq_div_pow, Nat.testBit_shiftRight]
/-- a mask acts byte by byte, behind a shift too -/
theorem ec_mk8 (q M : Nat) {b m k : Nat} (hb : b < 256) (hk : k ≤ 8) (hm : m < 2 ^ (8 - k)) : ((256 * q + b) / 2 ^ k) &&& (256 * M + m) = 256 * ((q / 2 ^ k) &&& M) + ((b / 2 ^ k) &&& m) := by
  have pk : (2 : Nat) ^ (8 - k) ≤ 2 ^ 8 := Nat.pow_le_pow_right (by decide) (by omega)
  have hm2 : m < 256 := by omega
  have hr : (b / 2 ^ k) &&& m < 256 := Nat.and_lt_two_pow (n := 8) _ hm2
  apply Nat.eq_of_testBit_eq
  intro i
  rw [Nat.testBit_and, ec_sh8, ec_tb8 q hb, ec_tb8 M hm2, ec_tb8 _ hr]
  by_cases h8 : i < 8
  · rw [if_pos h8, if_pos h8, Nat.testBit_and, ec_sh8]
    by_cases h2 : k + i < 8
    · rw [if_pos h2]
    · have p2 : (2 : Nat) ^ (8 - k) ≤ 2 ^ i := Nat.pow_le_pow_right (by decide) (by omega)
      rw [Nat.testBit_lt_two_pow (show m < 2 ^ i by omega)]
      simp
  · rw [if_neg h8, if_neg h8, if_neg (by omega), Nat.testBit_and, ec_sh8, show k + i - 8 = k + (i - 8) by omega]
def ec_rep (m : Nat) : Nat → Nat
  | 0 => 0
  | n + 1 => 256 * ec_rep m n + m
def ec_pA (n x : Nat) : Nat := x - ((x / 2 ^ 1) &&& ec_rep 85 n)
def ec_pB (n x : Nat) : Nat := (x &&& ec_rep 51 n) + ((x / 2 ^ 2) &&& ec_rep 51 n)
def ec_pC (n x : Nat) : Nat := (x + x / 2 ^ 4) &&& ec_rep 15 n
def ec_a1 (b : Nat) : Nat := b - ((b / 2 ^ 1) &&& 85)
def ec_b1 (b : Nat) : Nat := (b &&& 51) + ((b / 2 ^ 2) &&& 51)
def ec_p8 (b : Nat) : Nat := ec_cnt (fun j => b.testBit j) 8 0
theorem ec_by8 : ∀ b, b < 256 → ec_a1 b < 256 ∧ ec_b1 (ec_a1 b) % 16 ≤ 4 ∧ ec_b1 (ec_a1 b) / 16 ≤ 4 ∧ ec_p8 b = ec_b1 (ec_a1 b) % 16 + ec_b1 (ec_a1 b) / 16 := by decide +kernel
theorem ec_pA_s (n q : Nat) {b : Nat} (hb : b < 256) : ec_pA (n + 1) (256 * q + b) = 256 * ec_pA n q + ec_a1 b := by
  unfold ec_pA ec_a1
  show 256 * q + b - ((256 * q + b) / 2 ^ 1 &&& (256 * ec_rep 85 n + 85)) = _
  rw [ec_mk8 q (ec_rep 85 n) (k := 1) hb (by decide) (by decide)]
  have h1 : (q / 2 ^ 1) &&& ec_rep 85 n ≤ q := Nat.le_trans Nat.and_le_left (Nat.div_le_self _ _)
  have h2 : (b / 2 ^ 1) &&& 85 ≤ b := Nat.le_trans Nat.and_le_left (Nat.div_le_self _ _)
  omega
theorem ec_pB_s (n q : Nat) {b : Nat} (hb : b < 256) : ec_pB (n + 1) (256 * q + b) = 256 * ec_pB n q + ec_b1 b := by
  unfold ec_pB ec_b1
  show ((256 * q + b) &&& (256 * ec_rep 51 n + 51)) + ((256 * q + b) / 2 ^ 2 &&& (256 * ec_rep 51 n + 51)) = _
  rw [ec_mk8 q (ec_rep 51 n) (k := 2) hb (by decide) (by decide)]
  have h0 := ec_mk8 q (ec_rep 51 n) (k := 0) (m := 51) hb (by decide) (by decide)
  rw [Nat.pow_zero, Nat.div_one, Nat.div_one, Nat.div_one] at h0
  rw [h0]
  omega
def ec_dg (n x : Nat) : Nat := ec_pB n (ec_pA n x)
theorem ec_dg_s (n q : Nat) {b : Nat} (hb : b < 256) : ec_dg (n + 1) (256 * q + b) = 256 * ec_dg n q + ec_b1 (ec_a1 b) := by
  unfold ec_dg
  rw [ec_pA_s n q hb, ec_pB_s n _ (ec_by8 b hb).1]
theorem ec_dg_0 (n : Nat) : ec_dg n 0 = 0 := by
  unfold ec_dg ec_pB ec_pA
  simp
theorem ec_dg16 (n x : Nat) : ec_dg n x % 16 ≤ 4 := by
  cases n with
  | zero =>
    show (((x - ((x / 2 ^ 1) &&& 0)) &&& 0) + ((x - ((x / 2 ^ 1) &&& 0)) / 2 ^ 2 &&& 0)) % 16 ≤ 4
    rw [Nat.and_zero, Nat.and_zero]
    decide
  | succ n =>
    have := ec_dg_s n (x / 256) (b := x % 256) (Nat.mod_lt _ (by decide))
    rw [show 256 * (x / 256) + x % 256 = x by omega] at this
    have h := (ec_by8 (x % 256) (Nat.mod_lt _ (by decide))).2.1
    rw [this]
    omega
theorem ec_pC_s (n q : Nat) {b : Nat} (hb : b < 256) : ec_pC (n + 1) (ec_dg (n + 1) (256 * q + b)) = 256 * ec_pC n (ec_dg n q) + ec_p8 b := by
  obtain ⟨_, h1, h2, h3⟩ := ec_by8 b hb
  have hq := ec_dg16 n q
  rw [ec_dg_s n q hb, h3]
  generalize ec_dg n q = Y at *
  generalize ec_b1 (ec_a1 b) = B at *
  unfold ec_pC
  show (256 * Y + B + (256 * Y + B) / 2 ^ 4) &&& (256 * ec_rep 15 n + 15) = _
  rw [show 256 * Y + B + (256 * Y + B) / 2 ^ 4 = 256 * (Y + Y / 2 ^ 4) + (B + B / 16 + 16 * (Y % 16)) by
    have : (2 : Nat) ^ 4 = 16 := by decide
    rw [this]
    omega]
  have h0 := ec_mk8 (Y + Y / 2 ^ 4) (ec_rep 15 n) (k := 0) (b := B + B / 16 + 16 * (Y % 16)) (m := 15) (by omega) (by decide) (by decide)
  rw [Nat.pow_zero, Nat.div_one, Nat.div_one, Nat.div_one] at h0
  rw [h0]
  have e15 : (B + B / 16 + 16 * (Y % 16)) &&& 15 = (B + B / 16 + 16 * (Y % 16)) % 16 := Nat.and_two_pow_sub_one_eq_mod _ 4
  rw [e15]
  omega
theorem ec_pc_s (q : Nat) {b : Nat} (hb : b < 256) (m : Nat) : ec_cnt (fun j => (256 * q + b).testBit j) (8 + m) 0 = ec_p8 b + ec_cnt (fun j => q.testBit j) m 0 := by
  rw [ec_cnt_sp]
  have e1 : ec_cnt (fun j => (256 * q + b).testBit j) 8 0 = ec_p8 b := by
    unfold ec_p8
    simp only [ec_cnt, ec_tb8 q hb]
    rfl
  have e2 : ∀ m k, ec_cnt (fun j => (256 * q + b).testBit j) m (8 + k) = ec_cnt (fun j => q.testBit j) m k := by
    intro m
    induction m with
    | zero => intro k; rfl
    | succ m ih =>
      intro k
      show (if (256 * q + b).testBit (8 + k) = true then 1 else 0) + ec_cnt (fun j => (256 * q + b).testBit j) m (8 + k + 1) = (if q.testBit k = true then 1 else 0) + ec_cnt (fun j => q.testBit j) m (k + 1)
      have t : (256 * q + b).testBit (8 + k) = q.testBit k := by
        rw [ec_tb8 q hb, if_neg (by omega), show 8 + k - 8 = k by omega]
      rw [t, show 8 + k + 1 = 8 + (k + 1) by omega, ih (k + 1)]
  have := e2 m 0
  rw [show (8 + 0 : Nat) = 0 + 8 from rfl] at this
  rw [e1, this]
theorem ec_p8_le (b : Nat) : ec_p8 b ≤ 8 := ec_cnt_le _ 8 0
/-- of eight bytes: the counts, byte by byte, and their sum -/
theorem ec_pop {x : Nat} (hx : x < 2 ^ 64) : ∃ p0 p1 p2 p3 p4 p5 p6 p7, p0 ≤ 8 ∧ p1 ≤ 8 ∧ p2 ≤ 8 ∧ p3 ≤ 8 ∧ p4 ≤ 8 ∧ p5 ≤ 8 ∧ p6 ≤ 8 ∧ p7 ≤ 8 ∧ ec_pC 8 (ec_dg 8 x) = 256 * (256 * (256 * (256 * (256 * (256 * (256 * p7 + p6) + p5) + p4) + p3) + p2) + p1) + p0 ∧ ec_cnt (fun j => x.testBit j) 64 0 = p0 + p1 + p2 + p3 + p4 + p5 + p6 + p7 := by
  have st : ∀ n x, ec_pC (n + 1) (ec_dg (n + 1) x) = 256 * ec_pC n (ec_dg n (x / 256)) + ec_p8 (x % 256) := fun n x => by
    have := ec_pC_s n (x / 256) (b := x % 256) (Nat.mod_lt _ (by decide))
    rw [show 256 * (x / 256) + x % 256 = x by omega] at this
    exact this
  have sc : ∀ m x, ec_cnt (fun j => x.testBit j) (8 + m) 0 = ec_p8 (x % 256) + ec_cnt (fun j => (x / 256).testBit j) m 0 := fun m x => by
    have := ec_pc_s (x / 256) (b := x % 256) (Nat.mod_lt _ (by decide)) m
    rw [show 256 * (x / 256) + x % 256 = x by omega] at this
    exact this
  have z8 : x / 256 / 256 / 256 / 256 / 256 / 256 / 256 / 256 = 0 := by omega
  have c0 : ec_pC 0 (ec_dg 0 0) = 0 := by rw [ec_dg_0]; decide
  refine ⟨ec_p8 (x % 256), ec_p8 (x / 256 % 256), ec_p8 (x / 256 / 256 % 256), ec_p8 (x / 256 / 256 / 256 % 256), ec_p8 (x / 256 / 256 / 256 / 256 % 256), ec_p8 (x / 256 / 256 / 256 / 256 / 256 % 256), ec_p8 (x / 256 / 256 / 256 / 256 / 256 / 256 % 256), ec_p8 (x / 256 / 256 / 256 / 256 / 256 / 256 / 256 % 256), ec_p8_le _, ec_p8_le _, ec_p8_le _, ec_p8_le _, ec_p8_le _, ec_p8_le _, ec_p8_le _, ec_p8_le _, ?_, ?_⟩
  · rw [st 7, st 6, st 5, st 4, st 3, st 2, st 1, st 0, z8, c0]
    omega
  · rw [sc 56, sc 48, sc 40, sc 32, sc 24, sc 16, sc 8, show (8 : Nat) = 8 + 0 from rfl, sc 0]
    show _ + (_ + (_ + (_ + (_ + (_ + (_ + (_ + 0))))))) = _
    omega
end EBPOP
