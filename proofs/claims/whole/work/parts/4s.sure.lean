section EBSURE
variable {L : Nat} {xs : Nat → Int32}
def ed_E (nx : Nat → Nat → Option Nat) (q0 : Nat) : Nat → Nat → Prop
  | 0, q => q = q0
  | n + 1, q => ∃ u y, y < 4 ∧ ed_E nx q0 n u ∧ nx u y = some q
def ed_av (nx : Nat → Nat → Option Nat) (i u y : Nat) : Option Nat := match nx u y with
  | some t => if t % 16 = i then none else some t
  | none => none
theorem ed_av_s {nx : Nat → Nat → Option Nat} {i u y t : Nat} : ed_av nx i u y = some t ↔ nx u y = some t ∧ t % 16 ≠ i := by
  unfold ed_av
  cases nx u y with
  | none => exact ⟨fun z => (by cases z), fun z => (by cases z.1)⟩
  | some m =>
    dsimp only
    by_cases e : m % 16 = i
    · rw [if_pos e]
      constructor
      · intro z; cases z
      · rintro ⟨z, z2⟩; cases z; exact absurd e z2
    · rw [if_neg e]
      constructor
      · intro z; cases z; exact ⟨rfl, e⟩
      · rintro ⟨z, _⟩; exact z
theorem ed_E_av {nx : Nat → Nat → Option Nat} {i q0 : Nat} : ∀ {n q : Nat}, ed_E (ed_av nx i) q0 n q → ed_E nx q0 n q
  | 0, _, h => h
  | n + 1, q, h => by
    obtain ⟨u, y, hy, e, g⟩ := h
    exact ⟨u, y, hy, ed_E_av e, (ed_av_s.mp g).1⟩
theorem ed_E_w1 {nx : Nat → Nat → Option Nat} {q0 : Nat} {G : Nat → Prop} : ∀ (k j u : Nat), ed_E nx q0 k u → ec_wk nx G j u → ec_wk nx G (k + j) q0
  | 0, j, u, a, b => by
    rw [Nat.zero_add, ← show u = q0 from a]
    exact b
  | k + 1, j, u, a, b => by
    obtain ⟨v, y, hy, e, g⟩ := a
    have := ed_E_w1 k (j + 1) v e ⟨y, u, hy, g, b⟩
    rw [show k + 1 + j = k + (j + 1) by omega]
    exact this
theorem ed_E_w2 {nx : Nat → Nat → Option Nat} {q0 t : Nat} : ∀ (j k u : Nat), ed_E nx q0 k u → ec_wk nx (fun m => m = t) j u → ed_E nx q0 (k + j) t
  | 0, k, u, a, b => by
    rw [Nat.add_zero, ← show u = t from b]
    exact a
  | j + 1, k, u, a, b => by
    obtain ⟨y, m, hy, g, c⟩ := b
    have := ed_E_w2 j (k + 1) m ⟨u, y, hy, a, g⟩ c
    rw [show k + (j + 1) = k + 1 + j by omega]
    exact this
theorem ed_E_wk {nx : Nat → Nat → Option Nat} {q0 n q : Nat} : ed_E nx q0 n q ↔ ec_wk nx (fun m => m = q) n q0 := by
  constructor
  · intro h
    exact ed_E_w1 (G := fun m => m = q) n 0 q h rfl
  · intro h
    have := ed_E_w2 n 0 q0 rfl h
    rw [Nat.zero_add] at this
    exact this
/-! the class's row of what is sure -/
def ed_sr (B : Nat → Int64) (E : Nat → Prop) (Ei : Nat → Nat → Prop) : Prop := ∀ q, q < 1024 → (B q = -1 ∧ ¬ E q) ∨ (E q ∧ ∃ S, S < 2 ^ 16 ∧ B q = lN S ∧ ∀ i, i < 16 → (S.testBit i = true ↔ ¬ Ei i q))
theorem ed_sr.cg {B : Nat → Int64} {E E' : Nat → Prop} {F F' : Nat → Nat → Prop} (h : ed_sr B E F) (e : ∀ q, q < 1024 → (E q ↔ E' q)) (f : ∀ i q, q < 1024 → (F i q ↔ F' i q)) : ed_sr B E' F' := by
  intro q hq
  rcases h q hq with ⟨a, b⟩ | ⟨a, S, b, c, d⟩
  · exact Or.inl ⟨a, fun z => b ((e q hq).mpr z)⟩
  · exact Or.inr ⟨(e q hq).mp a, S, b, c, fun i hi => by rw [d i hi, f i q hq]⟩
def ed_Ep (nx : Nat → Nat → Option Nat) (q0 n k y q : Nat) : Prop := ∃ u y', y' < 4 ∧ ed_E nx q0 n u ∧ nx u y' = some q ∧ 4 * u + y' < 4 * k + y
theorem ed_Ep_new {nx : Nat → Nat → Option Nat} {q0 n k y q : Nat} (hy : y < 4) : ed_Ep nx q0 n k (y + 1) q ↔ ed_Ep nx q0 n k y q ∨ (ed_E nx q0 n k ∧ nx k y = some q) := by
  constructor
  · rintro ⟨u, y', h1, h3, h4, h5⟩
    by_cases e : 4 * u + y' < 4 * k + y
    · exact Or.inl ⟨u, y', h1, h3, h4, e⟩
    · have eu : u = k := by omega
      have ey : y' = y := by omega
      rw [eu] at h3 h4
      rw [ey] at h4
      exact Or.inr ⟨h3, h4⟩
  · rintro (⟨u, y', h1, h3, h4, h5⟩ | ⟨h3, h4⟩)
    · exact ⟨u, y', h1, h3, h4, by omega⟩
    · exact ⟨k, y, by omega, h3, h4, by omega⟩
theorem ed_m1_and (x : Int64) : (-1 : Int64) &&& x = x := by
  apply wb_inj
  have m1 : (-1 : Int64).toBitVec = BitVec.allOnes 64 := by decide
  rw [Int64.toBitVec_and, m1, BitVec.allOnes_and]
theorem ed_ne1 {S : Nat} (h : S < 2 ^ 31) : ¬ lN S = -1 := fun e => by
  have := congrArg Int64.toInt e
  rw [lN_toInt h] at this
  have t : (-1 : Int64).toInt = -1 := by decide
  omega
theorem ed_sure {nx : Nat → Nat → Option Nat} {q0 n k : Nat} {A Bf : Nat → Int64} (hA : ed_sr A (ed_E nx q0 n) (fun i => ed_E (ed_av nx i) q0 n)) (hk : k < 1024) (nk : A k ≠ -1) (hx : ∀ y t, nx k y = some t → t < 1024) (hB : ed_sr Bf (ed_Ep nx q0 n k 0) (fun i => ed_Ep (ed_av nx i) q0 n k 0)) : ∀ y, y ≤ 4 → ed_sr (ed_on nx (ed_jn 3) A k Bf y) (ed_Ep nx q0 n k y) (fun i => ed_Ep (ed_av nx i) q0 n k y) := by
  intro y
  induction y with
  | zero => intro _; exact hB
  | succ y ih =>
    intro hy
    have ih := ih (by omega)
    obtain ⟨Ek, SA, la, ea, ba⟩ : ed_E nx q0 n k ∧ ∃ S, S < 2 ^ 16 ∧ A k = lN S ∧ ∀ i, i < 16 → (S.testBit i = true ↔ ¬ ed_E (ed_av nx i) q0 n k) := by
      rcases hA k hk with z | z
      · exact absurd z.1 nk
      · exact z
    have ho : ed_on nx (ed_jn 3) A k Bf (y + 1) = ed_o1 nx (ed_jn 3) A k (ed_on nx (ed_jn 3) A k Bf y) y := rfl
    rw [ho]
    unfold ed_o1
    cases hn : nx k y with
    | none =>
      refine ih.cg (fun q _ => ?_) (fun i q _ => ?_)
      · rw [ed_Ep_new (by omega), hn]
        exact ⟨fun z => Or.inl z, fun z => z.elim id (fun u => by cases u.2)⟩
      · rw [ed_Ep_new (by omega)]
        refine ⟨fun z => Or.inl z, fun z => z.elim id (fun u => ?_)⟩
        have := (ed_av_s.mp u.2).1
        rw [hn] at this
        cases this
    | some t =>
      have ht := hx y t hn
      intro q hq
      dsimp only
      by_cases e : q = t
      · subst e
        rw [if_pos rfl]
        have p16 : (2 : Nat) ^ (q % 16) < 2 ^ 16 := wb_lt2 (by omega)
        have sh : (1 : Int64) <<< ((nI (q % 16)).toInt64 &&& 63) = lN (2 ^ (q % 16)) := by
          have := wb_shl 1 (k := q % 16) (by omega)
          rw [Nat.one_mul] at this
          exact this
        have lX : SA ||| 2 ^ (q % 16) < 2 ^ 16 := Nat.or_lt_two_pow la p16
        have j3 : ∀ z0 : Int64, ed_jn 3 z0 (A k) y (q % 16) = z0 &&& lN (SA ||| 2 ^ (q % 16)) := fun z0 => by
          unfold ed_jn
          rw [if_pos rfl, sh, ea, wb_or (by omega) (by omega)]
        rw [j3]
        have Enew : ed_Ep nx q0 n k (y + 1) q := (ed_Ep_new (by omega)).mpr (Or.inr ⟨Ek, hn⟩)
        have bX : ∀ i, i < 16 → ((SA ||| 2 ^ (q % 16)).testBit i = true ↔ ¬ (ed_E (ed_av nx i) q0 n k ∧ ed_av nx i k y = some q)) := fun i hi => by
          rw [Nat.testBit_or, Nat.testBit_two_pow, Bool.or_eq_true, ba i hi, decide_eq_true_iff, ed_av_s]
          constructor
          · rintro (z | z) u
            · exact z u.1
            · exact u.2.2 z
          · intro z
            by_cases x : q % 16 = i
            · exact Or.inr x
            · exact Or.inl (fun u => z ⟨u, hn, x⟩)
        rcases ih q hq with ⟨b1, b2⟩ | ⟨b1, S, b2, b3, b4⟩
        · rw [b1, ed_m1_and]
          refine Or.inr ⟨Enew, _, lX, rfl, fun i hi => ?_⟩
          rw [bX i hi]
          show _ ↔ ¬ ed_Ep (ed_av nx i) q0 n k (y + 1) q
          rw [ed_Ep_new (by omega)]
          constructor
          · rintro z (⟨u, y', h1, h3, h4, h5⟩ | u)
            · exact b2 ⟨u, y', h1, ed_E_av h3, (ed_av_s.mp h4).1, h5⟩
            · exact z u
          · intro z u; exact z (Or.inr u)
        · rw [b3, wb_and (by omega) (by omega)]
          refine Or.inr ⟨Enew, _, Nat.lt_of_le_of_lt Nat.and_le_left b2, rfl, fun i hi => ?_⟩
          rw [Nat.testBit_and, Bool.and_eq_true, b4 i hi, bX i hi]
          show _ ↔ ¬ ed_Ep (ed_av nx i) q0 n k (y + 1) q
          rw [ed_Ep_new (by omega)]
          constructor
          · rintro ⟨z1, z2⟩ (u | u)
            · exact z1 u
            · exact z2 u
          · intro z; exact ⟨fun u => z (Or.inl u), fun u => z (Or.inr u)⟩
      · rw [if_neg e]
        have s1 : ed_Ep nx q0 n k (y + 1) q ↔ ed_Ep nx q0 n k y q := by
          rw [ed_Ep_new (by omega), hn]
          exact ⟨fun z => z.elim id (fun u => by cases u.2; exact absurd rfl e), fun z => Or.inl z⟩
        have s2 : ∀ i, ed_Ep (ed_av nx i) q0 n k (y + 1) q ↔ ed_Ep (ed_av nx i) q0 n k y q := fun i => by
          rw [ed_Ep_new (by omega)]
          refine ⟨fun z => z.elim id (fun u => ?_), fun z => Or.inl z⟩
          have := (ed_av_s.mp u.2).1
          rw [hn] at this
          cases this
          exact absurd rfl e
        rcases ih q hq with ⟨b1, b2⟩ | ⟨b1, S, b2, b3, b4⟩
        · exact Or.inl ⟨b1, fun z => b2 (s1.mp z)⟩
        · exact Or.inr ⟨s1.mpr b1, S, b2, b3, fun i hi => by rw [b4 i hi]; show ¬ _ ↔ ¬ _; rw [s2 i]⟩
theorem ed_it_sure {nx : Nat → Nat → Option Nat} {P : Nat → Prop} {q0 : Nat} (h0 : P q0) (hP : ∀ q, P q → q < 1024) (hx : ∀ q y t, P q → nx q y = some t → P t) : ∀ n, ed_sr (ed_it nx (ed_jn 3) (-1) (fun q => if q = q0 then 0 else -1) n) (ed_E nx q0 n) (fun i => ed_E (ed_av nx i) q0 n) := by
  have wP : ∀ n u, ed_E nx q0 n u → P u := by
    intro n
    induction n with
    | zero => rintro u rfl; exact h0
    | succ n ih => rintro u ⟨v, y, _, w, g⟩; exact hx v y u (ih v w) g
  intro n
  induction n with
  | zero =>
    intro q hq
    by_cases e : q = q0
    · refine Or.inr ⟨e, 0, by decide, ?_, fun i _ => ?_⟩
      · show (if q = q0 then (0 : Int64) else -1) = lN 0
        rw [if_pos e]; rfl
      · rw [Nat.zero_testBit]
        exact ⟨fun z => (by cases z), fun z => absurd e z⟩
    · exact Or.inl ⟨if_neg e, e⟩
  | succ n ihn =>
    have al : ∀ k, k ≤ 1024 → ed_sr (ed_al nx (ed_jn 3) (-1) (ed_it nx (ed_jn 3) (-1) (fun q => if q = q0 then 0 else -1) n) k) (ed_Ep nx q0 n k 0) (fun i => ed_Ep (ed_av nx i) q0 n k 0) := by
      intro k
      induction k with
      | zero =>
        intro _ q hq
        refine Or.inl ⟨rfl, ?_⟩
        rintro ⟨u, y', _, _, _, h⟩
        omega
      | succ k ihk =>
        intro hk
        have ihk := ihk (by omega)
        by_cases e : ed_it nx (ed_jn 3) (-1) (fun q => if q = q0 then 0 else -1) n k = -1
        · have ea : ed_al nx (ed_jn 3) (-1) (ed_it nx (ed_jn 3) (-1) (fun q => if q = q0 then 0 else -1) n) (k + 1) = ed_al nx (ed_jn 3) (-1) (ed_it nx (ed_jn 3) (-1) (fun q => if q = q0 then 0 else -1) n) k := if_pos e
          rw [ea]
          have nw : ¬ ed_E nx q0 n k := by
            rcases ihn k (by omega) with z | ⟨_, S, z2, z3, _⟩
            · exact z.2
            · exact absurd (z3.symm.trans e) (ed_ne1 (by omega))
          refine ihk.cg (fun q _ => ?_) (fun i q _ => ?_)
          · constructor
            · rintro ⟨u, y', h1, h3, h4, h5⟩
              exact ⟨u, y', h1, h3, h4, by omega⟩
            · rintro ⟨u, y', h1, h3, h4, h5⟩
              refine ⟨u, y', h1, h3, h4, ?_⟩
              have : u ≠ k := fun z => nw (by rw [← z]; exact h3)
              omega
          · constructor
            · rintro ⟨u, y', h1, h3, h4, h5⟩
              exact ⟨u, y', h1, h3, h4, by omega⟩
            · rintro ⟨u, y', h1, h3, h4, h5⟩
              refine ⟨u, y', h1, h3, h4, ?_⟩
              have : u ≠ k := fun z => nw (by rw [← z]; exact ed_E_av h3)
              omega
        · have ea : ed_al nx (ed_jn 3) (-1) (ed_it nx (ed_jn 3) (-1) (fun q => if q = q0 then 0 else -1) n) (k + 1) = ed_on nx (ed_jn 3) (ed_it nx (ed_jn 3) (-1) (fun q => if q = q0 then 0 else -1) n) k (ed_al nx (ed_jn 3) (-1) (ed_it nx (ed_jn 3) (-1) (fun q => if q = q0 then 0 else -1) n) k) 4 := if_neg e
          rw [ea]
          have pk : P k := by
            rcases ihn k (by omega) with z | ⟨z, _⟩
            · exact absurd z.1 e
            · exact wP n k z
          refine (ed_sure ihn (by omega) e (fun y t g => hP t (hx k y t pk g)) ihk 4 (Nat.le_refl _)).cg (fun q _ => ?_) (fun i q _ => ?_)
          · constructor
            · rintro ⟨u, y', h1, h3, h4, h5⟩
              exact ⟨u, y', h1, h3, h4, by omega⟩
            · rintro ⟨u, y', h1, h3, h4, h5⟩
              exact ⟨u, y', h1, h3, h4, by omega⟩
          · constructor
            · rintro ⟨u, y', h1, h3, h4, h5⟩
              exact ⟨u, y', h1, h3, h4, by omega⟩
            · rintro ⟨u, y', h1, h3, h4, h5⟩
              exact ⟨u, y', h1, h3, h4, by omega⟩
    refine (al 1024 (Nat.le_refl _)).cg (fun q _ => ?_) (fun i q _ => ?_)
    · constructor
      · rintro ⟨u, y', h1, h3, h4, _⟩
        exact ⟨u, y', h1, h3, h4⟩
      · rintro ⟨u, y', h1, h3, h4⟩
        have := hP u (wP n u h3)
        exact ⟨u, y', h1, h3, h4, by omega⟩
    · constructor
      · rintro ⟨u, y', h1, h3, h4, _⟩
        exact ⟨u, y', h1, h3, h4⟩
      · rintro ⟨u, y', h1, h3, h4⟩
        have := hP u (wP n u (ed_E_av h3))
        exact ⟨u, y', h1, h3, h4, by omega⟩
/-! over stands; a cell left out -/
def ed_nxb (w : eb_Wo) (x : Int32) (n y : Nat) : Option Nat := match ec_g w.va w.now w.now.D n y with
  | some m => if nI (m / 64) = x then none else some m
  | none => none
theorem ed_nxb_s {w : eb_Wo} {x : Int32} {n y m : Nat} (h : ed_nxb w x n y = some m) : ec_g w.va w.now w.now.D n y = some m ∧ ¬ nI (m / 64) = x := by
  unfold ed_nxb at h
  cases hg : ec_g w.va w.now w.now.D n y with
  | none => rw [hg] at h; cases h
  | some t =>
    rw [hg] at h
    dsimp only at h
    by_cases e : nI (t / 64) = x
    · rw [if_pos e] at h; cases h
    · rw [if_neg e] at h; cases h; exact ⟨rfl, e⟩
theorem ed_nxb_lt {w : eb_Wo} (ok : eb_okW w) {x : Int32} {n y m : Nat} (hn : n < 64 * (w.va.R * w.va.W)) (h : ed_nxb w x n y = some m) : m < 64 * (w.va.R * w.va.W) := ec_g_lt ok.va ok.now hn (ed_nxb_s h).1
/-- no cell left out: as the class's codes -/
theorem ed_nxb_c {w : eb_Wo} (ok : eb_okW w) {x : Int32} (hx : ∀ c, c < w.va.R * w.va.W → ¬ nI c = x) {n y : Nat} (hn : n < 64 * (w.va.R * w.va.W)) : ed_nxb w x n y = ec_g w.va w.now w.now.D n y := by
  unfold ed_nxb
  cases hg : ec_g w.va w.now w.now.D n y with
  | none => rfl
  | some t =>
    have ht := ec_g_lt ok.va ok.now hn hg
    dsimp only
    rw [if_neg (hx (t / 64) (by omega))]
theorem ed_nxc_m {w : eb_Wo} (ok : eb_okW w) {s y : Nat} (hs : s < 64 * (w.va.R * w.va.W)) : ed_nxc w.va w.now w.now.D false (ec_cd s) y = (ec_g w.va w.now w.now.D s y).map ec_cd := by
  have r10 := ok.va.RW.2.2.2.2.2.2.2.2.2.1
  unfold ed_nxc
  rw [ed_sd_cd (by omega)]
  cases ec_g w.va w.now w.now.D s y with
  | none => rfl
  | some m => rfl
theorem ed_av_m {w : eb_Wo} (ok : eb_okW w) {i s y : Nat} (hi : i < 16) (hs : s < 64 * (w.va.R * w.va.W)) : ed_av (ed_nxc w.va w.now w.now.D false) i (ec_cd s) y = (ed_nxb w (nI i) s y).map ec_cd := by
  have r10 := ok.va.RW.2.2.2.2.2.2.2.2.2.1
  unfold ed_av
  rw [ed_nxc_m ok hs]
  unfold ed_nxb
  cases hg : ec_g w.va w.now w.now.D s y with
  | none => rfl
  | some m =>
    have hm := ec_g_lt ok.va ok.now hs hg
    show (if ec_cd m % 16 = i then none else some (ec_cd m)) = Option.map ec_cd (if nI (m / 64) = nI i then none else some m)
    rw [ed_cdm (by omega)]
    by_cases e : m / 64 = i
    · rw [if_pos e, if_pos (by rw [e])]; rfl
    · rw [if_neg e, if_neg (by rw [nI_eq (by omega) (by omega)]; exact e)]; rfl
theorem ed_wk_mp {nx nx' : Nat → Nat → Option Nat} {f : Nat → Nat} {N t : Nat} (hf : ∀ a b, a < N → b < N → f a = f b → a = b) (hx : ∀ s y, s < N → nx (f s) y = (nx' s y).map f) (hl : ∀ s y m, s < N → nx' s y = some m → m < N) (ht : t < N) {j s : Nat} (hs : s < N) : ec_wk nx (fun m => m = f t) j (f s) ↔ ec_wk nx' (fun m => m = t) j s := by
  rw [ed_U_wk, ed_U_wk]
  constructor
  · rintro ⟨r, h⟩; exact ⟨r, (ed_U_mp hf hx hl ht j r s hs).mp h⟩
  · rintro ⟨r, h⟩; exact ⟨r, (ed_U_mp hf hx hl ht j r s hs).mpr h⟩
theorem ed_wk_cg {nx nx' : Nat → Nat → Option Nat} {N : Nat} {G : Nat → Prop} (hx : ∀ s y, s < N → nx s y = nx' s y) (hl : ∀ s y m, s < N → nx' s y = some m → m < N) : ∀ (j s : Nat), s < N → (ec_wk nx G j s ↔ ec_wk nx' G j s)
  | 0, s, _ => Iff.rfl
  | j + 1, s, hs => by
    constructor
    · rintro ⟨y, m, hy, g, w⟩
      rw [hx s y hs] at g
      exact ⟨y, m, hy, g, (ed_wk_cg hx hl j m (hl s y m hs g)).mp w⟩
    · rintro ⟨y, m, hy, g, w⟩
      refine ⟨y, m, hy, by rw [hx s y hs]; exact g, (ed_wk_cg hx hl j m (hl s y m hs g)).mpr w⟩
/-! counts are walks -/
def ed_dl (t q : Nat) : Nat := if q = t then 1 else 0
theorem ed_dl_le (t q : Nat) : ed_dl t q ≤ 1 := by unfold ed_dl; split <;> omega
theorem ed_M_z {nx : Nat → Nat → Option Nat} {B : Nat → Nat} {q : Nat} : ∀ y, ed_M nx B q y = 0 ↔ ∀ y', y' < y → ∀ t, nx q y' = some t → B t = 0
  | 0 => ⟨fun _ y' h => by omega, fun _ => rfl⟩
  | y + 1 => by
    have ih := ed_M_z (nx := nx) (B := B) (q := q) y
    rw [ed_Ms]
    constructor
    · intro h y' hy' t ht
      by_cases e : y' = y
      · rw [e] at ht
        rw [ht] at h
        dsimp only at h
        omega
      · exact ih.mp (by omega) y' (by omega) t ht
    · intro h
      rw [ih.mpr (fun y' hy' => h y' (by omega))]
      cases hn : nx q y with
      | none => rfl
      | some t =>
        show 0 + B t = 0
        rw [h y (by omega) t hn]
theorem ed_Mn_wk {nx : Nat → Nat → Option Nat} {t : Nat} : ∀ (j s : Nat), ed_Mn nx (ed_dl t) j s = 0 ↔ ¬ ec_wk nx (fun m => m = t) j s
  | 0, s => by
    show (if s = t then 1 else 0) = 0 ↔ ¬ (s = t)
    by_cases e : s = t
    · rw [if_pos e]; exact ⟨fun z => by omega, fun z => absurd e z⟩
    · rw [if_neg e]; exact ⟨fun _ => e, fun _ => rfl⟩
  | j + 1, s => by
    show ed_M nx (ed_Mn nx (ed_dl t) j) s 4 = 0 ↔ _
    rw [ed_M_z]
    constructor
    · rintro h ⟨y, m, hy, g, w⟩
      exact (ed_Mn_wk j m).mp (h y hy m g) w
    · intro h y hy m g
      exact (ed_Mn_wk j m).mpr (fun w => h ⟨y, m, hy, g, w⟩)
end EBSURE
