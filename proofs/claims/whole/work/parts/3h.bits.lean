section EBBITS
/-! rows of the kit's BITS.to-paste: wb_, pf_ -/
theorem wb_tb (n : Nat) : (lN n).toBitVec = BitVec.ofNat 64 n := rfl
theorem wb_inj {a b : Int64} (h : a.toBitVec = b.toBitVec) : a = b := Int64.toBitVec_inj.mp h
theorem wb_tn {n : Nat} (h : n < 2 ^ 64) : (lN n).toBitVec.toNat = n := by rw [wb_tb, BitVec.toNat_ofNat, Nat.mod_eq_of_lt h]
theorem wb_of (x : Int64) : ∃ n, n < 2 ^ 64 ∧ x = lN n := ⟨x.toBitVec.toNat, x.toBitVec.isLt, wb_inj (by rw [wb_tb]; simp)⟩
theorem wb_of32 (x : Int32) : ∃ n, n < 2 ^ 32 ∧ x = nI n := ⟨x.toBitVec.toNat, x.toBitVec.isLt, Int32.toBitVec_inj.mp (by show _ = BitVec.ofNat 32 _; simp)⟩
theorem wb_c : ∀ k, k < 64 → ((nI k).toInt64 &&& 63) = lN k := by decide +kernel
theorem wb_cu : ∀ k, k < 64 → ((nI k).toInt64.toUInt64 &&& Int64.toUInt64 63) = UInt64.ofNat k := by decide +kernel
theorem wb_sm : ∀ k, k < 64 → (BitVec.ofNat 64 k).smod 64 = BitVec.ofNat 64 k := by decide +kernel
theorem wb_pw {a b : Nat} (h : a ≤ b) : 2 ^ b = 2 ^ a * 2 ^ (b - a) := by rw [← Nat.pow_add]; congr 1; omega
theorem wb_lt2 {a b : Nat} (h : a < b) : 2 ^ a < 2 ^ b := Nat.pow_lt_pow_right (by decide) h
theorem wb_mod (n : Nat) : lN n = lN (n % 2 ^ 64) := wb_inj (by rw [wb_tb, wb_tb]; apply BitVec.eq_of_toNat_eq; rw [BitVec.toNat_ofNat, BitVec.toNat_ofNat, Nat.mod_mod])
theorem wb_shr {n k : Nat} (hn : n < 2 ^ 64) (hk : k < 64) : ((lN n).toUInt64 >>> ((nI k).toInt64.toUInt64 &&& Int64.toUInt64 63)).toInt64 = lN (n / 2 ^ k) := by
  rw [wb_cu k hk]
  apply wb_inj
  apply BitVec.eq_of_toNat_eq
  show ((lN n).toUInt64 >>> UInt64.ofNat k).toNat = (BitVec.ofNat 64 _).toNat
  have h1 : (UInt64.ofNat k).toNat = k := by
    show (BitVec.ofNat 64 k).toNat = k
    rw [BitVec.toNat_ofNat, Nat.mod_eq_of_lt (by omega)]
  have h2 : (lN n).toUInt64.toNat = n := wb_tn hn
  rw [UInt64.toNat_shiftRight, h1, h2, Nat.mod_eq_of_lt hk, Nat.shiftRight_eq_div_pow, BitVec.toNat_ofNat, Nat.mod_eq_of_lt (Nat.lt_of_le_of_lt (Nat.div_le_self _ _) hn)]
theorem wb_shl (n : Nat) {k : Nat} (hk : k < 64) : lN n <<< ((nI k).toInt64 &&& 63) = lN (n * 2 ^ k) := by
  rw [wb_c k hk]
  apply wb_inj
  rw [Int64.toBitVec_shiftLeft, wb_tb, wb_tb, wb_tb, wb_sm k hk]
  apply BitVec.eq_of_toNat_eq
  rw [BitVec.shiftLeft_eq', BitVec.toNat_shiftLeft, BitVec.toNat_ofNat, BitVec.toNat_ofNat, BitVec.toNat_ofNat, Nat.mod_eq_of_lt (show k < 2 ^ 64 by omega), Nat.shiftLeft_eq, Nat.mul_mod, Nat.mod_mod, ← Nat.mul_mod]
theorem wb_and {a b : Nat} (ha : a < 2 ^ 64) (hb : b < 2 ^ 64) : lN a &&& lN b = lN (a &&& b) := by
  apply wb_inj
  rw [Int64.toBitVec_and, wb_tb, wb_tb, wb_tb]
  apply BitVec.eq_of_toNat_eq
  rw [BitVec.toNat_and, BitVec.toNat_ofNat, BitVec.toNat_ofNat, BitVec.toNat_ofNat, Nat.mod_eq_of_lt ha, Nat.mod_eq_of_lt hb, Nat.mod_eq_of_lt (Nat.and_lt_two_pow _ hb)]
theorem wb_or {a b : Nat} (ha : a < 2 ^ 64) (hb : b < 2 ^ 64) : lN a ||| lN b = lN (a ||| b) := by
  apply wb_inj
  rw [Int64.toBitVec_or, wb_tb, wb_tb, wb_tb]
  apply BitVec.eq_of_toNat_eq
  rw [BitVec.toNat_or, BitVec.toNat_ofNat, BitVec.toNat_ofNat, BitVec.toNat_ofNat, Nat.mod_eq_of_lt ha, Nat.mod_eq_of_lt hb, Nat.mod_eq_of_lt (Nat.or_lt_two_pow ha hb)]
theorem wb_mask {n k : Nat} (hn : n < 2 ^ 64) (hk : k < 64) : lN n &&& lN (2 ^ k - 1) = lN (n % 2 ^ k) := by
  rw [wb_and hn (by have := wb_lt2 hk; omega), Nat.and_two_pow_sub_one_eq_mod]
theorem wb_a1 {n : Nat} (hn : n < 2 ^ 64) : lN n &&& 1 = lN (n % 2) := wb_mask (k := 1) hn (by decide)
theorem wb_bit {n k : Nat} (hn : n < 2 ^ 64) (hk : k < 64) : ((lN n).toUInt64 >>> ((nI k).toInt64.toUInt64 &&& Int64.toUInt64 63)).toInt64 &&& 1 = lN (n / 2 ^ k % 2) := by
  rw [wb_shr hn hk, wb_a1 (Nat.lt_of_le_of_lt (Nat.div_le_self _ _) hn)]
theorem pf_lI {a : Nat} (h : a < 2 ^ 63) : (lN a).toInt = (a : Int) := lg_ofNat_toInt h
theorem pf_shr {a d : Nat} {D : Int64} (hD : (D.toBitVec.smod 64).toNat = d) (h : a < 2 ^ 62) : lN a >>> D = lN (a / 2 ^ d) := by
  have hd : a / 2 ^ d ≤ a := Nat.div_le_self _ _
  apply Int64.toInt_inj.mp
  have e : (lN a >>> D).toInt = (lN a).toInt >>> d := by
    rw [← hD]
    exact BitVec.toInt_sshiftRight ..
  rw [e, Int.shiftRight_eq_div_pow, pf_lI (by omega), pf_lI (by omega)]
  rfl
theorem ec_or {a b : Nat} (ha : a < 2 ^ 32) (hb : b < 2 ^ 32) : nI a ||| nI b = nI (a ||| b) := by
  apply Int32.toBitVec_inj.mp
  rw [Int32.toBitVec_or]
  apply BitVec.eq_of_toNat_eq
  rw [BitVec.toNat_or, pk_tn ha, pk_tn hb, pk_tn (Nat.or_lt_two_pow ha hb)]
theorem ec_and {a b : Nat} (ha : a < 2 ^ 32) (hb : b < 2 ^ 32) : nI a &&& nI b = nI (a &&& b) := by
  apply Int32.toBitVec_inj.mp
  rw [Int32.toBitVec_and]
  apply BitVec.eq_of_toNat_eq
  rw [BitVec.toNat_and, pk_tn ha, pk_tn hb, pk_tn (Nat.and_lt_two_pow _ hb)]
theorem ec_xor {a b : Nat} (ha : a < 2 ^ 32) (hb : b < 2 ^ 32) : nI a ^^^ nI b = nI (a ^^^ b) := by
  apply Int32.toBitVec_inj.mp
  rw [Int32.toBitVec_xor]
  apply BitVec.eq_of_toNat_eq
  rw [BitVec.toNat_xor, pk_tn ha, pk_tn hb, pk_tn (Nat.xor_lt_two_pow ha hb)]
theorem ec_sm : ∀ j, j < 32 → ((nI j &&& 31).toBitVec.smod 32).toNat = j := by decide +kernel
theorem ec_shr {n j : Nat} (hn : n < 2 ^ 31) (hj : j < 32) : nI n >>> (nI j &&& 31) = nI (n / 2 ^ j) := pk_shrN hn _ j (ec_sm j hj)
theorem ec_shl {n j : Nat} (hj : j < 32) (h : n * 2 ^ j < 2 ^ 32) : nI n <<< (nI j &&& 31) = nI (n * 2 ^ j) := pk_shlN _ j (ec_sm j hj) h
theorem ec_p2 {j : Nat} (hj : j < 32) : (2 : Nat) ^ j < 2 ^ 32 := wb_lt2 hj
theorem ec_shl1 {j : Nat} (hj : j < 32) : (1 : Int32) <<< (nI j &&& 31) = nI (2 ^ j) := by
  have := ec_shl (n := 1) hj (by rw [Nat.one_mul]; exact ec_p2 hj)
  rw [Nat.one_mul] at this
  exact this
theorem ec_and1 {n : Nat} (hn : n < 2 ^ 32) : nI n &&& 1 = nI (n % 2) := pk_andN hn 1 (by decide)
theorem ec_bit1 {n j : Nat} (hn : n < 2 ^ 31) (hj : j < 32) : (nI n >>> (nI j &&& 31)) &&& 1 = nI (n / 2 ^ j % 2) := by
  rw [ec_shr hn hj, ec_and1 (Nat.lt_of_le_of_lt (Nat.div_le_self _ _) (by omega))]
theorem ec_smL : ∀ j, j < 64 → ((lN j).toBitVec.smod 64).toNat = j := by decide +kernel
theorem ec_lbit {n j : Nat} (hn : n < 2 ^ 31) (hj : j < 64) : ((nI n).toInt64 >>> ((nI j).toInt64 &&& 63)) &&& 1 = lN (n / 2 ^ j % 2) := by
  rw [nI_l hn, wb_c j hj, pf_shr (ec_smL j hj) (by omega), wb_a1 (Nat.lt_of_le_of_lt (Nat.div_le_self _ _) (by omega))]
theorem ec_lN1 {n : Nat} : lN (n % 2) = 1 ↔ n % 2 = 1 := by
  have : lN (n % 2) = lN 1 ↔ n % 2 = 1 := lN_eq (by omega) (by omega)
  exact this
theorem ec_nI1 {n : Nat} : nI (n % 2) = 1 ↔ n % 2 = 1 := by
  have : nI (n % 2) = nI 1 ↔ n % 2 = 1 := nI_eq (by omega) (by omega)
  exact this
theorem ec_nI0 {n : Nat} : nI (n % 2) = 0 ↔ n % 2 = 0 := by
  have : nI (n % 2) = nI 0 ↔ n % 2 = 0 := nI_eq (by omega) (by omega)
  exact this
theorem ec_m1 {n : Nat} (h : n < 2 ^ 31) : ¬ nI n = (-1) := fun e => by
  have : (nI n).toInt = -1 := by rw [e]; decide
  rw [nI_toInt h] at this
  omega
/-! ===== a step, as the document tells it ===== -/
def ec_oi : Option Nat → Int32
  | none => -1
  | some n => nI n
def ec_nb (R W c way : Nat) : Option Nat := if way = 0 then (if c < W then none else some (c - W)) else if way = 1 then (if c % W + 1 = W then none else some (c + 1)) else if way = 2 then (if c + W < R * W then some (c + W) else none) else if way = 3 then (if c % W = 0 then none else some (c - 1)) else none
def ec_bc (e : Nat) : Nat := e % 2 + e / 2 % 2 + e / 4 % 2 + e / 8 % 2 + e / 16 % 2 + e / 32 % 2
def ec_w6 (x1 x2 x3 x4 x5 x6 : Int32) (j : Nat) : Int32 := if j = 0 then x1 else if j = 1 then x2 else if j = 2 then x3 else if j = 3 then x4 else if j = 4 then x5 else x6
def ec_ok (l : Option (List Int32)) (wv : Nat → Int32) : Bool := match l with
  | none => true
  | some cs => decide ((ec_run wv cs []).headD 0 = 1)
def eb_Va.R (V : eb_Va) : Nat := V.rows.toInt.toNat
def eb_Va.W (V : eb_Va) : Nat := V.cols.toInt.toNat
def eb_Va.B (V : eb_Va) : Nat := V.bears.toInt.toNat
def eb_St.b (s : eb_St) : Nat := s.bat.toInt.toNat
def eb_St.e (s : eb_St) : Nat := s.echoes.toInt.toNat
def eb_St.D (s : eb_St) : Nat := s.drifts.toInt.toNat
def eb_St.k (s : eb_St) (c : Nat) : Nat := (s.th c).toInt.toNat
def ec_wv (V : eb_Va) (s : eb_St) (c to l : Nat) : Nat → Int32 := ec_w6 (V.ht to) (V.ht c) (nI l) s.wind (nI to) (s.th to)
def ec_may (V : eb_Va) (s : eb_St) (c e to : Nat) : Bool := ec_ok V.may (ec_wv V s c to (ec_bc e))
def ec_tk (V : eb_Va) (s : eb_St) (c e to : Nat) : Bool := decide (1 ≤ s.k to) && decide (ec_bc e < V.B) && ec_ok V.takes (ec_wv V s c to (ec_bc e))
def ec_why (V : eb_Va) (s : eb_St) (D c e way : Nat) : Nat := match ec_nb V.R V.W c way with
  | none => 2
  | some to => if D / 2 ^ to % 2 = 1 then 3 else if ec_may V s c e to then 0 else 4
def ec_bt (k : Nat) : Nat := if k = 0 then 0 else 2 ^ (k - 1)
/-- what a step to a cell takes up -/
def ec_tn (V : eb_Va) (s : eb_St) (c e to : Nat) : Nat := if ec_tk V s c e to = true ∧ e / 2 ^ (s.k to - 1) % 2 = 0 then s.k to else 0
def ec_ne (V : eb_Va) (s : eb_St) (c e to : Nat) : Nat := e ||| ec_bt (ec_tn V s c e to)
theorem eb_okV.RW {V : eb_Va} (p : eb_okV V) : V.rows = nI V.R ∧ V.cols = nI V.W ∧ V.bears = nI V.B ∧ 1 ≤ V.R ∧ V.R ≤ 4 ∧ 1 ≤ V.W ∧ V.W ≤ 4 ∧ 1 ≤ V.B ∧ V.B ≤ 6 ∧ V.R * V.W ≤ 16 ∧ (V.rows.toInt * V.cols.toInt).toNat = V.R * V.W ∧ V.rows.toInt = V.R ∧ V.cols.toInt = V.W := by
  have a := p.rows
  have b := p.cols
  have c := p.bears
  have e1 : V.rows.toInt = (V.R : Int) := by unfold eb_Va.R; omega
  have e2 : V.cols.toInt = (V.W : Int) := by unfold eb_Va.W; omega
  have r1 : 1 ≤ V.R ∧ V.R ≤ 4 := by omega
  have r2 : 1 ≤ V.W ∧ V.W ≤ 4 := by omega
  refine ⟨eb_ofn (by omega), eb_ofn (by omega), eb_ofn (by omega), r1.1, r1.2, r2.1, r2.2, ?_, ?_, ?_, ?_, e1, e2⟩
  · unfold eb_Va.B; omega
  · unfold eb_Va.B; omega
  · exact Nat.mul_le_mul r1.2 r2.2
  · rw [e1, e2]; rfl
theorem eb_okS.N {V : eb_Va} {s : eb_St} (ok : eb_okV V) (p : eb_okS V s) : s.bat = nI s.b ∧ s.echoes = nI s.e ∧ s.drifts = nI s.D ∧ s.b < V.R * V.W ∧ s.e < 64 ∧ s.D < 65536 ∧ ∀ c, c < 16 → s.th c = nI (s.k c) ∧ s.k c ≤ 6 := by
  have a := p.bat
  have b := p.echoes
  have c := p.drifts
  obtain ⟨_, _, _, _, _, _, _, _, _, _, rw1, _, _⟩ := ok.RW
  refine ⟨eb_ofn (by omega), eb_ofn (by omega), eb_ofn (by omega), ?_, ?_, ?_, fun j hj => ?_⟩
  · unfold eb_St.b; omega
  · unfold eb_St.e; omega
  · unfold eb_St.D; omega
  · have d := p.th j hj
    refine ⟨eb_ofn (by omega), ?_⟩
    unfold eb_St.k; omega
theorem ec_nb_lt {R W c way to : Nat} (hc : c < R * W) (hW : 0 < W) (h : ec_nb R W c way = some to) : to < R * W := by
  unfold ec_nb at h
  split at h
  · split at h
    · cases h
    · cases h; omega
  · split at h
    · split at h
      · cases h
      · rename_i q
        cases h
        have h1 := Nat.mod_lt c hW
        have h2 := Nat.div_add_mod c W
        have h3 : c / W < R := Nat.div_lt_of_lt_mul (by rw [Nat.mul_comm]; exact hc)
        have h4 : W * (c / W) + W ≤ R * W := by
          have := Nat.mul_le_mul_left W (show c / W + 1 ≤ R by omega)
          rw [Nat.mul_add, Nat.mul_one, Nat.mul_comm W R] at this
          exact this
        omega
    · split at h
      · split at h
        · cases h; omega
        · cases h
      · split at h
        · split at h
          · cases h
          · cases h; omega
        · cases h
theorem ec_bc_le (e : Nat) : ec_bc e ≤ 6 := by unfold ec_bc; omega
theorem ec_or_lt : ∀ e, e < 64 → ∀ k, k < 7 → e ||| ec_bt k < 64 := by decide +kernel
theorem ec_or_in : ∀ e, e < 64 → ∀ k, k < 7 → 1 ≤ k → e / 2 ^ (k - 1) % 2 = 1 → e ||| ec_bt k = e := by decide +kernel
theorem ec_ne_lt {V : eb_Va} {s : eb_St} {c e to : Nat} (he : e < 64) (hk : s.k to ≤ 6) : ec_ne V s c e to < 64 := by
  unfold ec_ne ec_tn
  split
  · exact ec_or_lt e he _ (by omega)
  · exact ec_or_lt e he 0 (by omega)
end EBBITS
