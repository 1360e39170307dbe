section EBFIRST
variable {L : Nat} {xs : Nat → Int32}
/-! ===== flights as words: the directions as digits to base 4 ===== -/
def ed_W (nx : Nat → Nat → Option Nat) (q0 : Nat) : Nat → Nat → Nat → Prop
  | 0, x, q => x = 0 ∧ q = q0
  | n + 1, x, q => ∃ x0 y u, y < 4 ∧ x = 4 * x0 + y ∧ ed_W nx q0 n x0 u ∧ nx u y = some q
/-- from a stand to the end t -/
def ed_U (nx : Nat → Nat → Option Nat) (t : Nat) : Nat → Nat → Nat → Prop
  | 0, r, s => r = 0 ∧ s = t
  | j + 1, r, s => ∃ y m r', y < 4 ∧ r = y * 4 ^ j + r' ∧ r' < 4 ^ j ∧ nx s y = some m ∧ ed_U nx t j r' m
theorem ed_U_lt {nx : Nat → Nat → Option Nat} {t : Nat} : ∀ {j r s : Nat}, ed_U nx t j r s → r < 4 ^ j
  | 0, r, s, h => by
    rw [h.1]
    exact Nat.pow_pos (by decide)
  | j + 1, r, s, h => by
    obtain ⟨y, m, r', hy, e, hr, _, _⟩ := h
    rw [e, Nat.pow_succ]
    have : y * 4 ^ j ≤ 3 * 4 ^ j := Nat.mul_le_mul_right _ (by omega)
    omega
theorem ed_U_W {nx : Nat → Nat → Option Nat} {q0 t : Nat} : ∀ (j k p r s : Nat), ed_W nx q0 k p s → ed_U nx t j r s → ed_W nx q0 (k + j) (p * 4 ^ j + r) t
  | 0, k, p, r, s, a, b => by
    obtain ⟨b1, b2⟩ := b
    rw [b1, Nat.pow_zero, Nat.mul_one, Nat.add_zero, Nat.add_zero, ← b2]
    exact a
  | j + 1, k, p, r, s, a, b => by
    obtain ⟨y, m, r', hy, e, hr, g, u⟩ := b
    have := ed_U_W j (k + 1) (4 * p + y) r' m ⟨p, y, s, hy, rfl, a, g⟩ u
    rw [show k + (j + 1) = k + 1 + j by omega, e]
    have e2 : p * 4 ^ (j + 1) + (y * 4 ^ j + r') = (4 * p + y) * 4 ^ j + r' := by
      rw [Nat.pow_succ, Nat.add_mul, Nat.add_assoc, Nat.mul_comm (4 ^ j) 4, ← Nat.mul_assoc, Nat.mul_comm p 4]
    rw [e2]
    exact this
theorem ed_W_U {nx : Nat → Nat → Option Nat} {q0 t : Nat} : ∀ (k j p r s : Nat), ed_W nx q0 k p s → ed_U nx t j r s → ed_U nx t (k + j) (p * 4 ^ j + r) q0
  | 0, j, p, r, s, a, b => by
    obtain ⟨a1, a2⟩ := a
    rw [a1, Nat.zero_mul, Nat.zero_add, Nat.zero_add, ← a2]
    exact b
  | k + 1, j, p, r, s, a, b => by
    obtain ⟨x0, y, u, hy, e, w, g⟩ := a
    have := ed_W_U k (j + 1) x0 (y * 4 ^ j + r) u w ⟨y, s, r, hy, rfl, ed_U_lt b, g, b⟩
    rw [show k + 1 + j = k + (j + 1) by omega, e]
    have e2 : (4 * x0 + y) * 4 ^ j + r = x0 * 4 ^ (j + 1) + (y * 4 ^ j + r) := by
      rw [Nat.pow_succ, Nat.add_mul, Nat.add_assoc, Nat.mul_comm (4 ^ j) 4, ← Nat.mul_assoc, Nat.mul_comm x0 4]
    rw [e2]
    exact this
theorem ed_WU {nx : Nat → Nat → Option Nat} {q0 t n x : Nat} : ed_W nx q0 n x t ↔ ed_U nx t n x q0 := by
  constructor
  · intro h
    have := ed_W_U n 0 x 0 t h ⟨rfl, rfl⟩
    rw [Nat.pow_zero, Nat.mul_one, Nat.add_zero, Nat.add_zero] at this
    exact this
  · intro h
    have := ed_U_W n 0 0 x q0 ⟨rfl, rfl⟩ h
    rw [Nat.zero_mul, Nat.zero_add, Nat.zero_add] at this
    exact this
theorem ed_U_wk {nx : Nat → Nat → Option Nat} {t : Nat} : ∀ (j s : Nat), ec_wk nx (fun n => n = t) j s ↔ ∃ r, ed_U nx t j r s
  | 0, s => ⟨fun h => ⟨0, rfl, h⟩, fun ⟨_, h⟩ => h.2⟩
  | j + 1, s => by
    constructor
    · rintro ⟨y, m, hy, g, w⟩
      obtain ⟨r, hr⟩ := (ed_U_wk j m).mp w
      exact ⟨y * 4 ^ j + r, y, m, r, hy, rfl, ed_U_lt hr, g, hr⟩
    · rintro ⟨r, y, m, r', hy, _, _, g, u⟩
      exact ⟨y, m, hy, g, (ed_U_wk j m).mpr ⟨r', u⟩⟩
/-- the same over another numbering of the stands -/
theorem ed_U_mp {nx nx' : Nat → Nat → Option Nat} {f : Nat → Nat} {N t : Nat} (hf : ∀ a b, a < N → b < N → f a = f b → a = b) (hx : ∀ s y, s < N → nx (f s) y = (nx' s y).map f) (hl : ∀ s y m, s < N → nx' s y = some m → m < N) (ht : t < N) : ∀ (j r s : Nat), s < N → (ed_U nx (f t) j r (f s) ↔ ed_U nx' t j r s)
  | 0, r, s, hs => by
    constructor
    · rintro ⟨a, b⟩; exact ⟨a, hf _ _ hs ht b⟩
    · rintro ⟨a, b⟩; exact ⟨a, by rw [b]⟩
  | j + 1, r, s, hs => by
    constructor
    · rintro ⟨y, m, r', hy, e, hr, g, u⟩
      rw [hx s y hs] at g
      cases hg : nx' s y with
      | none => rw [hg] at g; cases g
      | some m' =>
        rw [hg] at g
        cases g
        exact ⟨y, m', r', hy, e, hr, hg, (ed_U_mp hf hx hl ht j r' m' (hl s y m' hs hg)).mp u⟩
    · rintro ⟨y, m, r', hy, e, hr, g, u⟩
      refine ⟨y, f m, r', hy, e, hr, ?_, (ed_U_mp hf hx hl ht j r' m (hl s y m hs g)).mpr u⟩
      rw [hx s y hs, g]
      rfl
/-! the class's row of first flights -/
def ed_mi (M : Nat) (B : Nat → Int64) (S : Nat → Nat → Prop) : Prop := ∀ q, q < 1024 → (B q = -1 ∧ ∀ x, ¬ S x q) ∨ ∃ x, B q = lN x ∧ x < M ∧ S x q ∧ ∀ x', S x' q → x ≤ x'
theorem ed_mi.cg {M : Nat} {B : Nat → Int64} {S S' : Nat → Nat → Prop} (h : ed_mi M B S) (e : ∀ x q, q < 1024 → (S x q ↔ S' x q)) : ed_mi M B S' := by
  intro q hq
  rcases h q hq with ⟨a, b⟩ | ⟨x, a, b, c, d⟩
  · exact Or.inl ⟨a, fun x z => b x ((e x q hq).mpr z)⟩
  · exact Or.inr ⟨x, a, b, (e x q hq).mp c, fun x' z => d x' ((e x' q hq).mpr z)⟩
def ed_Wp (nx : Nat → Nat → Option Nat) (q0 n k y x q : Nat) : Prop := ∃ x0 y' u, y' < 4 ∧ x = 4 * x0 + y' ∧ ed_W nx q0 n x0 u ∧ nx u y' = some q ∧ 4 * u + y' < 4 * k + y
theorem ed_l4 {x y : Nat} (hy : y < 4) : (4 : Int64) * lN x + (nI y).toInt64 = lN (4 * x + y) := by
  rw [nI_l (by omega), show (4 : Int64) * lN x = lN (4 * x) from lN_mul 4 x, lN_add]
theorem ed_first {nx : Nat → Nat → Option Nat} {q0 n k M : Nat} {A Bf : Nat → Int64} (hM : 4 * M < 2 ^ 31) (hA : ed_mi M A (ed_W nx q0 n)) (hk : k < 1024) (nk : A k ≠ -1) (hx : ∀ y t, nx k y = some t → t < 1024) (hB : ed_mi (4 * M) Bf (ed_Wp nx q0 n k 0)) : ∀ y, y ≤ 4 → ed_mi (4 * M) (ed_on nx (ed_jn 2) A k Bf y) (ed_Wp nx q0 n k y) := by
  intro y
  induction y with
  | zero => intro _; exact hB
  | succ y ih =>
    intro hy
    have ih := ih (by omega)
    obtain ⟨x0, ea, la, wa, ma⟩ : ∃ x, A k = lN x ∧ x < M ∧ ed_W nx q0 n x k ∧ ∀ x', ed_W nx q0 n x' k → x ≤ x' := by
      rcases hA k hk with z | z
      · exact absurd z.1 nk
      · exact z
    have new : ∀ x q, ed_Wp nx q0 n k (y + 1) x q ↔ ed_Wp nx q0 n k y x q ∨ ∃ x', x = 4 * x' + y ∧ ed_W nx q0 n x' k ∧ nx k y = some q := by
      intro x q
      constructor
      · rintro ⟨x', y', u, h1, h2, h3, h4, h5⟩
        by_cases e : 4 * u + y' < 4 * k + y
        · exact Or.inl ⟨x', y', u, h1, h2, h3, h4, e⟩
        · have eu : u = k := by omega
          have ey : y' = y := by omega
          rw [eu] at h3 h4
          rw [ey] at h2 h4
          exact Or.inr ⟨x', h2, h3, h4⟩
      · rintro (⟨x', y', u, h1, h2, h3, h4, h5⟩ | ⟨x', h2, h3, h4⟩)
        · exact ⟨x', y', u, h1, h2, h3, h4, by omega⟩
        · exact ⟨x', y, k, by omega, h2, h3, h4, by omega⟩
    have ho : ed_on nx (ed_jn 2) A k Bf (y + 1) = ed_o1 nx (ed_jn 2) A k (ed_on nx (ed_jn 2) A k Bf y) y := rfl
    rw [ho]
    unfold ed_o1
    cases hn : nx k y with
    | none =>
      refine ih.cg (fun x q _ => ?_)
      rw [new x q, hn]
      constructor
      · intro z; exact Or.inl z
      · rintro (z | ⟨_, _, _, z⟩)
        · exact z
        · cases z
    | some t =>
      have ht := hx y t hn
      intro q hq
      dsimp only
      by_cases e : q = t
      · subst e
        rw [if_pos rfl]
        have j2 : ∀ z0 : Int64, ed_jn 2 z0 (A k) y (q % 16) = if z0 = -1 then lN (4 * x0 + y) else if lN (4 * x0 + y) < z0 then lN (4 * x0 + y) else z0 := fun z0 => by
          unfold ed_jn
          rw [if_neg (by decide), if_pos rfl, ea, ed_l4 (by omega)]
        rw [j2]
        have cand : ed_Wp nx q0 n k (y + 1) (4 * x0 + y) q := (new _ _).mpr (Or.inr ⟨x0, rfl, wa, hn⟩)
        rcases ih q hq with ⟨b1, b2⟩ | ⟨z, b1, b2, b3, b4⟩
        · rw [if_pos b1]
          refine Or.inr ⟨4 * x0 + y, rfl, by omega, cand, fun x' hx' => ?_⟩
          rcases (new x' q).mp hx' with u | ⟨x1, u1, u2, _⟩
          · exact absurd u (b2 x')
          · have := ma x1 u2
            omega
        · have n1 : ¬ (lN z = -1) := fun u => by
            have := congrArg Int64.toInt u
            rw [lN_toInt (by omega)] at this
            have t : (-1 : Int64).toInt = -1 := by decide
            omega
          have ll := lN_lt (a := 4 * x0 + y) (b := z) (by omega) (by omega)
          rw [b1, if_neg n1]
          by_cases l : 4 * x0 + y < z
          · rw [if_pos (ll.mpr l)]
            refine Or.inr ⟨4 * x0 + y, rfl, by omega, cand, fun x' hx' => ?_⟩
            rcases (new x' q).mp hx' with u | ⟨x1, u1, u2, _⟩
            · have := b4 x' u; omega
            · have := ma x1 u2; omega
          · rw [if_neg (fun u => l (ll.mp u))]
            refine Or.inr ⟨z, rfl, b2, (new _ _).mpr (Or.inl b3), fun x' hx' => ?_⟩
            rcases (new x' q).mp hx' with u | ⟨x1, u1, u2, _⟩
            · exact b4 x' u
            · have := ma x1 u2; omega
      · rw [if_neg e]
        have same : ∀ x, ed_Wp nx q0 n k (y + 1) x q ↔ ed_Wp nx q0 n k y x q := fun x => by
          rw [new x q, hn]
          constructor
          · rintro (z | ⟨_, _, _, z⟩)
            · exact z
            · cases z; exact absurd rfl e
          · intro z; exact Or.inl z
        rcases ih q hq with ⟨b1, b2⟩ | ⟨z, b1, b2, b3, b4⟩
        · exact Or.inl ⟨b1, fun x u => b2 x ((same x).mp u)⟩
        · exact Or.inr ⟨z, b1, b2, (same z).mpr b3, fun x' u => b4 x' ((same x').mp u)⟩
theorem ed_it_first {nx : Nat → Nat → Option Nat} {P : Nat → Prop} {q0 : Nat} (h0 : P q0) (hP : ∀ q, P q → q < 1024) (hx : ∀ q y t, P q → nx q y = some t → P t) : ∀ n, n ≤ 10 → ed_mi (4 ^ n) (ed_it nx (ed_jn 2) (-1) (fun q => if q = q0 then 0 else -1) n) (ed_W nx q0 n) := by
  have wP : ∀ n x u, ed_W nx q0 n x u → P u := by
    intro n
    induction n with
    | zero => rintro x u ⟨_, rfl⟩; exact h0
    | succ n ih => rintro x u ⟨x0, y, v, _, _, w, g⟩; exact hx v y u (ih x0 v w) g
  intro n
  induction n with
  | zero =>
    intro _ q hq
    show ((if q = q0 then (0 : Int64) else -1) = -1 ∧ _) ∨ _
    by_cases e : q = q0
    · exact Or.inr ⟨0, by show (if q = q0 then (0 : Int64) else -1) = lN 0; rw [if_pos e]; rfl, by decide, ⟨rfl, e⟩, fun x' _ => Nat.zero_le _⟩
    · exact Or.inl ⟨if_neg e, fun x z => e z.2⟩
  | succ n ih =>
    intro hn
    have ihn := ih (by omega)
    have pw : 4 ^ n ≤ 4 ^ 10 := Nat.pow_le_pow_right (by decide) (by omega)
    have pv : (4 : Nat) ^ 10 = 1048576 := by decide
    have al : ∀ k, k ≤ 1024 → ed_mi (4 * 4 ^ n) (ed_al nx (ed_jn 2) (-1) (ed_it nx (ed_jn 2) (-1) (fun q => if q = q0 then 0 else -1) n) k) (ed_Wp nx q0 n k 0) := by
      intro k
      induction k with
      | zero =>
        intro _ q hq
        refine Or.inl ⟨rfl, ?_⟩
        rintro x ⟨x0, y', u, _, _, _, _, h⟩
        omega
      | succ k ihk =>
        intro hk
        have ihk := ihk (by omega)
        by_cases e : ed_it nx (ed_jn 2) (-1) (fun q => if q = q0 then 0 else -1) n k = -1
        · have ea : ed_al nx (ed_jn 2) (-1) (ed_it nx (ed_jn 2) (-1) (fun q => if q = q0 then 0 else -1) n) (k + 1) = ed_al nx (ed_jn 2) (-1) (ed_it nx (ed_jn 2) (-1) (fun q => if q = q0 then 0 else -1) n) k := if_pos e
          rw [ea]
          have nw : ∀ x, ¬ ed_W nx q0 n x k := by
            rcases ihn k (by omega) with z | ⟨x, z, z2, _⟩
            · exact z.2
            · exfalso
              rw [z] at e
              have := congrArg Int64.toInt e
              rw [lN_toInt (by omega)] at this
              have t : (-1 : Int64).toInt = -1 := by decide
              omega
          refine ihk.cg (fun x q _ => ?_)
          constructor
          · rintro ⟨x0, y', u, h1, h2, h3, h4, h5⟩
            exact ⟨x0, y', u, h1, h2, h3, h4, by omega⟩
          · rintro ⟨x0, y', u, h1, h2, h3, h4, h5⟩
            refine ⟨x0, y', u, h1, h2, h3, h4, ?_⟩
            have : u ≠ k := fun z => nw x0 (by rw [← z]; exact h3)
            omega
        · have ea : ed_al nx (ed_jn 2) (-1) (ed_it nx (ed_jn 2) (-1) (fun q => if q = q0 then 0 else -1) n) (k + 1) = ed_on nx (ed_jn 2) (ed_it nx (ed_jn 2) (-1) (fun q => if q = q0 then 0 else -1) n) k (ed_al nx (ed_jn 2) (-1) (ed_it nx (ed_jn 2) (-1) (fun q => if q = q0 then 0 else -1) n) k) 4 := if_neg e
          rw [ea]
          have pk : P k := by
            rcases ihn k (by omega) with z | ⟨x, _, _, z, _⟩
            · exact absurd z.1 e
            · exact wP n x k z
          refine (ed_first (by omega) ihn (by omega) e (fun y t g => hP t (hx k y t pk g)) ihk 4 (Nat.le_refl _)).cg (fun x q _ => ?_)
          constructor
          · rintro ⟨x0, y', u, h1, h2, h3, h4, h5⟩
            exact ⟨x0, y', u, h1, h2, h3, h4, by omega⟩
          · rintro ⟨x0, y', u, h1, h2, h3, h4, h5⟩
            exact ⟨x0, y', u, h1, h2, h3, h4, by omega⟩
    have fin := al 1024 (Nat.le_refl _)
    rw [show 4 ^ (n + 1) = 4 * 4 ^ n by rw [Nat.pow_succ, Nat.mul_comm]]
    refine fin.cg (fun x q _ => ?_)
    constructor
    · rintro ⟨x0, y', u, h1, h2, h3, h4, _⟩
      exact ⟨x0, y', u, h1, h2, h3, h4⟩
    · rintro ⟨x0, y', u, h1, h2, h3, h4⟩
      have := hP u (wP n x0 u h3)
      exact ⟨x0, y', u, h1, h2, h3, h4, by omega⟩
end EBFIRST
