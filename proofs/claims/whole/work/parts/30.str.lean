section EBSTR
/-- the two range checks of the JDK -/
theorem T_J3_ciN {d : Nat} {h : eb_H} {Q : Option Value → eb_H → Prop} (x0 x1 : Int32) (c0 : ¬ x0 < 0) (c1 : x0 < x1) (w : Q (some (.int x0)) h) : eb_Ct d 304 [.int x0, .int x1, .null] h Q := by
  refine eb_bodyQ (by decide) ok_J3_checkIndex_8e157 (Nat.le_of_ble_eq_true rfl) ?_
  change eb_Sn _ m_J3_checkIndex_8e157 _ 0 [(0, .int x0), (1, .int x1), (2, .null)] [] _ _
  refine eb_iload_n (pc := 0) (n := 0) (i := 0) rfl rfl rfl ?_
  refine eb_if_lt (pc := 1) (tgt := 9) rfl (by decide) (fun c => absurd c c0) (fun _ => ?_)
  refine eb_iload_n (pc := 4) (n := 0) (i := 0) rfl rfl rfl ?_
  refine eb_iload_n (pc := 5) (n := 1) (i := 1) rfl rfl rfl ?_
  refine eb_icmp_lt (pc := 6) (tgt := 16) rfl (by decide) (fun _ => ?_) (fun c => absurd c1 c)
  refine eb_iload_n (pc := 16) (n := 0) (i := 0) rfl rfl rfl ?_
  exact eb_ireturn (pc := 17) rfl rfl rfl w
theorem T_J3_ciR {d : Nat} {h : eb_H} {Q : Option Value → eb_H → Prop} (x0 x1 : Int32) (a : Nat) (c0 : ¬ x0 < 0) (c1 : x0 < x1) (w : Q (some (.int x0)) h) : eb_Ct d 304 [.int x0, .int x1, .ref a] h Q := by
  refine eb_bodyQ (by decide) ok_J3_checkIndex_8e157 (Nat.le_of_ble_eq_true rfl) ?_
  change eb_Sn _ m_J3_checkIndex_8e157 _ 0 [(0, .int x0), (1, .int x1), (2, .ref a)] [] _ _
  refine eb_iload_n (pc := 0) (n := 0) (i := 0) rfl rfl rfl ?_
  refine eb_if_lt (pc := 1) (tgt := 9) rfl (by decide) (fun c => absurd c c0) (fun _ => ?_)
  refine eb_iload_n (pc := 4) (n := 0) (i := 0) rfl rfl rfl ?_
  refine eb_iload_n (pc := 5) (n := 1) (i := 1) rfl rfl rfl ?_
  refine eb_icmp_lt (pc := 6) (tgt := 16) rfl (by decide) (fun _ => ?_) (fun c => absurd c1 c)
  refine eb_iload_n (pc := 16) (n := 0) (i := 0) rfl rfl rfl ?_
  exact eb_ireturn (pc := 17) rfl rfl rfl w
theorem T_J0_checkIndex {d : Nat} {h : eb_H} {Q : Option Value → eb_H → Prop} (x0 x1 : Int32) (c0 : ¬ x0 < 0) (c1 : x0 < x1) (w : Q none h) : eb_Ct (d + 1) 295 [.int x0, .int x1] h Q := by
  refine eb_bodyQ (by decide) ok_J0_checkIndex_df160 (Nat.le_of_ble_eq_true rfl) ?_
  change eb_Sn _ m_J0_checkIndex_df160 _ 0 [(0, .int x0), (1, .int x1)] [] _ _
  refine eb_iload_n (pc := 0) (n := 0) (i := 0) rfl rfl rfl ?_
  refine eb_iload_n (pc := 1) (n := 1) (i := 1) rfl rfl rfl ?_
  have k1 : eb_Sn (d + 1) m_J0_checkIndex_df160 h 5 [(0, .int x0), (1, .int x1)] [.null, .int x1, .int x0] h (fun r h' => r = none ∧ h' = h) := by
    refine eb_ctS (pc := 5) (As := [.int x0, .int x1, .null]) (rest := []) rfl (by decide) (by decide) rfl rfl (Nat.le_of_ble_eq_true rfl) ?_
    refine T_J3_ciN x0 x1 c0 c1 ?_
    change eb_Sn _ _ _ 8 _ [.int x0] _ _
    refine eb_popi (pc := 8) rfl ?_
    exact eb_return (pc := 9) rfl rfl ⟨rfl, rfl⟩
  have k2 : eb_Sn (d + 1) m_J0_checkIndex_df160 h 5 [(0, .int x0), (1, .int x1)] [.ref (eb_mk 0 23 0), .int x1, .int x0] h (fun r h' => r = none ∧ h' = h) := by
    refine eb_ctS (pc := 5) (As := [.int x0, .int x1, .ref (eb_mk 0 23 0)]) (rest := []) rfl (by decide) (by decide) rfl rfl (Nat.le_of_ble_eq_true rfl) ?_
    refine T_J3_ciR x0 x1 _ c0 c1 ?_
    change eb_Sn _ _ _ 8 _ [.int x0] _ _
    refine eb_popi (pc := 8) rfl ?_
    exact eb_return (pc := 9) rfl rfl ⟨rfl, rfl⟩
  obtain ⟨r1, h1, a1, rfl, rfl⟩ := k1
  obtain ⟨r2, h2, a2, rfl, e2⟩ := k2
  rw [e2] at a2
  exact ⟨none, _, eb_fmt (pc := 2) rfl rfl a1 a2, w⟩
/-- a String constant's letter -/
def eb_cA (i j : Nat) : Int32 := ((((eb_byt.getD i []).getD j 0) &&& 255).toUInt32 % 65536).toInt32
theorem eb_cA_nar : ∀ i, i < 21 → ∀ j, j < eb_sln.getD i 0 → narrow .char (.int (eb_cA i j)) = .int (eb_cA i j) := by decide +kernel
theorem eb_sln_lt : ∀ i, i < 21 → eb_sln.getD i 0 < 100 := by decide
theorem eb_len_sh : ∀ i, i < 21 → (Int32.ofNat (eb_sln.getD i 0)) >>> ((0 : Int32) &&& 31) = nI (eb_sln.getD i 0) := by decide +kernel
theorem C_length {d : Nat} {h : eb_H} {Q : Option Value → eb_H → Prop} (i : Nat) (hi : i < 21) (ko : eb_KO h) (w : Q (some (.int (nI (eb_sln.getD i 0)))) h) : eb_Ct (d + 1) 289 [.ref (eb_mk i 21 0)] h Q := by
  refine T_J0_length_8abf5 i hi ko (T_J0_coder_7d493 i hi ko ⟨0, rfl, ko, ?_⟩)
  have e : (Int32.ofNat (eb_sln.getD i 0)) >>> ((0 : Int32) &&& 31) = nI (eb_sln.getD i 0) := by
    exact eb_len_sh i hi
  rw [e]
  exact w
theorem C_charAt {d : Nat} {h : eb_H} {Q : Option Value → eb_H → Prop} (i j : Nat) (hi : i < 21) (hj : j < eb_sln.getD i 0) (ko : eb_KO h) (w : Q (some (.int (eb_cA i j))) h) : eb_Ct (d + 3) 290 [.ref (eb_mk i 21 0), .int (nI j)] h Q := by
  have hl := eb_sln_lt i hi
  have ej : (nI j).toNatClampNeg = j := by
    show (nI j).toInt.toNat = j
    rw [nI_toInt (by omega)]; omega
  refine T_J0_charAt_5068e i (nI j) hi ko (T_J0_isLatin1_aae02 i hi ko ⟨1, rfl, ko, by decide, ?_⟩)
  refine T_J1_charAt_3b067 i (nI j) hi ko (T_J0_checkIndex (nI j) _ ?_ ?_ ⟨rfl, ko, vp_in_nI hj (by omega), ?_⟩)
  · rw [Int32.lt_iff_toInt_lt, nI_toInt (by omega)]
    have : (0 : Int32).toInt = 0 := by decide
    omega
  · show nI j < nI _
    rw [Int32.lt_iff_toInt_lt, nI_toInt (by omega), nI_toInt (by omega)]
    omega
  · rw [ej]
    exact ⟨eb_cA_nar i hi j hj, ⟨_, rfl, ko, eb_cA_nar i hi j hj, w⟩⟩
/-- where a letter first stands -/
def eb_ixg : List Int32 → Int32 → Nat → Int32
  | [], _, _ => -1
  | b :: t, x, j => if b = x then nI j else eb_ixg t x (j + 1)
theorem eb_byt_len : ∀ i, i < 21 → (eb_byt.getD i []).length = eb_sln.getD i 0 := by decide +kernel
theorem C_ixloop {d : Nat} {h0 h : eb_H} {Q : Option Value → eb_H → Prop} (i : Nat) (hi : i < 21) (x : Int32) (ko : eb_KO h) : ∀ (m j : Nat), j + m = eb_sln.getD i 0 → Q (some (.int (eb_ixg ((eb_byt.getD i []).drop j) x j))) h → eb_Sn d m_J1_indexOfChar_4cfef h0 7 [(0, .ref (eb_mk i 22 0)), (3, .int (nI (eb_sln.getD i 0))), (4, .int x), (5, .int (nI j))] [] h Q := by
  have hl := eb_sln_lt i hi
  have hb := eb_byt_len i hi
  intro m
  induction m with
  | zero =>
    intro j hj w
    refine b_J1_indexOfChar_4cfef_7 i _ x _ hi ko ⟨fun _ => ?_, fun c => ?_⟩
    · rw [List.drop_of_length_le (by omega)] at w
      exact w
    · exfalso
      apply c
      have : eb_sln.getD i 0 = j := by omega
      rw [this]
      exact Int32.le_refl _
  | succ m ih =>
    intro j hj w
    have ej : (nI j).toNatClampNeg = j := by
      show (nI j).toInt.toNat = j
      rw [nI_toInt (by omega)]; omega
    have e1 : nI j + 1 = nI (j + 1) := by
      show nI j + nI 1 = _
      rw [nI_add]
    have hjl : j < (eb_byt.getD i []).length := by omega
    have eg : (eb_byt.getD i []).getD j 0 = (eb_byt.getD i [])[j] := by
      rw [List.getD_eq_getElem?_getD, List.getElem?_eq_getElem hjl]; rfl
    rw [List.drop_eq_getElem_cons hjl] at w
    unfold eb_ixg at w
    refine b_J1_indexOfChar_4cfef_7 i _ x _ hi ko ⟨fun c => ?_, fun _ => ⟨vp_in_nI (by omega) (by omega), fun c => ?_, fun c => ?_⟩⟩
    · exfalso
      rw [Int32.le_iff_toInt_le, nI_toInt (by omega), nI_toInt (by omega)] at c
      omega
    · rw [ej, eg] at c
      rw [if_neg c] at w
      rw [e1]
      exact ih (j + 1) (by omega) w
    · rw [ej, eg] at c
      rw [if_pos c] at w
      exact w
def eb_ixo (i : Nat) (x : Int32) : Int32 := if ¬ x < 0 ∧ ¬ (255 : Int32) < x then eb_ixg (eb_byt.getD i []) x.toInt8.toInt32 0 else -1
theorem eb_ix_a : ∀ i, i < 21 → ((0 : Int32) < nI (eb_sln.getD i 0)) ∧ (if Int32.ofNat (eb_sln.getD i 0) < nI (eb_sln.getD i 0) then Int32.ofNat (eb_sln.getD i 0) else nI (eb_sln.getD i 0) : Int32) = nI (eb_sln.getD i 0) := by decide +kernel
theorem C_indexOf {d : Nat} {h : eb_H} {Q : Option Value → eb_H → Prop} (i : Nat) (hi : i < 21) (x : Int32) (ko : eb_KO h) (w : Q (some (.int (eb_ixo i x))) h) : eb_Ct (d + 4) 291 [.ref (eb_mk i 21 0), .int x] h Q := by
  obtain ⟨hp, hm⟩ := eb_ix_a i hi
  refine T_J0_indexOf_0f7a4 i x hi ko (T_J0_indexOf_7cf53 i x 0 hi ko (T_J0_isLatin1_aae02 i hi ko ⟨1, rfl, ko, by decide, C_length i hi ko ⟨_, rfl, ko, ?_⟩⟩))
  refine T_J1_indexOf_4cfef i x 0 _ hi ko (T_J1_canEncode_9a6ad x ko ⟨_, rfl, ko, fun c => ?_, fun c => ?_⟩)
  · have cc : ¬ x < 0 ∧ ¬ (255 : Int32) < x := Classical.byContradiction fun z => c (eb_qf z)
    rw [eb_ixo, if_pos cc] at w
    rw [hm]
    refine ⟨fun _ => ?_, fun z => absurd hp z⟩
    refine T_J1_indexOfChar_4cfef i x _ _ hi ko ?_
    refine C_ixloop i hi _ ko (eb_sln.getD i 0) 0 (by omega) ?_
    exact ⟨_, rfl, ko, ⟨_, rfl, ko, ⟨_, rfl, ko, w⟩⟩⟩
  · have cc : ¬ (¬ x < 0 ∧ ¬ (255 : Int32) < x) := fun z => by
      rw [eb_qt z] at c
      exact absurd c (by decide)
    rw [eb_ixo, if_neg cc] at w
    exact ⟨_, rfl, ko, ⟨_, rfl, ko, w⟩⟩
end EBSTR
