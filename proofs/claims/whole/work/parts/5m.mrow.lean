section EBMROW
variable {L : Nat} {xs : Nat → Int32}
theorem ee_mul5 : ∀ a, a < 5 → ∀ b, b < 5 → nI a * nI b = nI (a * b) := by decide +kernel
theorem M_row0 {d : Nat} {h0 h : eb_H} {Q : Option Value → eb_H → Prop} {y : Int32 × Int32} (w : ee_MW h (some y)) (x1 x2 : Int32) (ko : eb_KO h) (q : Q none h) : eb_Sn (d + 1) m_X11_readRow h0 20 [(0, .ref s_MO), (1, .int x1), (2, .int x2)] [] h Q :=
  b_X11_readRow_20 (d := d) _ _ ko ⟨fun _ => q, fun _ => ⟨fun _ => q, fun z => absurd (w.1.symm.trans z) w.2.2⟩⟩
theorem M_rowl {d : Nat} {h0 : eb_H} {Q : Option Value → eb_H → Prop} {tx : Nat → Nat} {n b r : Nat} (ht : ∀ j, j < n → tx j < 256) (hn : n ≤ 900) (hb : b ≤ 4) (hr : r < 4) : ∀ (k i p : Nat) (D : ee_D) (h : eb_H), i + k = b → D.1 2 = nI b → ee_MR tx n h p D → eb_KO h → (∀ h', ee_fx h h' → eb_KO h' → ee_MQ tx n h' (ee_rowl tx n (b * r) k i p D) → Q none h') → eb_Sn (d + 7) m_X11_readRow h0 20 [(0, .ref s_MO), (1, .int (nI r)), (2, .int (nI i))] [] h Q
  | 0, i, p, D, h, hi, e2, m, ko, q => by
    have c2 : (2 : Int32).toNatClampNeg = 2 := by decide
    refine b_X11_readRow_20 (d := d + 6) _ _ ko ?_
    rw [c2, m.2.2.1.1 2 (by omega) (by omega), e2, show i = b by omega]
    exact ⟨fun _ => q h ee_fx.rfl ko (Or.inr ⟨rfl, m⟩), fun z => absurd (nI_le (Nat.le_refl _) (by omega)) z⟩
  | k + 1, i, p, D, h, hi, e2, m, ko, q => by
    have c2 : (2 : Int32).toNatClampNeg = 2 := by decide
    have br : b * r ≤ 4 * 3 := Nat.mul_le_mul hb (by omega)
    have e11 : (11 : Int32) + nI (b * r) = nI (11 + b * r) := ec_9 11 _
    refine b_X11_readRow_20 (d := d + 6) _ _ ko ?_
    rw [c2, m.2.2.1.1 2 (by omega) (by omega), e2, ee_mul5 b (by omega) r (by omega), e11, nI_add, eb_cln (n := 11 + b * r + i) (by omega), nI_1]
    refine ⟨fun z => absurd z (nI_ge (by omega) (by omega)), fun _ => ⟨fun z => absurd m.2.1 z, fun _ => ?_⟩⟩
    unfold ee_rowl ee_nb at q
    refine M_tkR (d := d) ht hn m 0 9 (by omega) (by omega) ko (fun ok h1 F1 k1 m1 => ⟨_, rfl, k1, vp_in_nI (by omega) (by omega), ?_⟩) (fun no v h1 F1 k1 w1 ef => ⟨_, rfl, k1, vp_in_nI (by omega) (by omega), ?_⟩)
    · rw [if_pos ok] at q
      exact M_rowl ht hn hb hr k (i + 1) _ _ _ (by omega) ((if_neg (by omega)).trans e2) (m1.set (j := 11 + b * r + i) (v := nI (ee_v tx n p)) (by omega)) (F1.fs.1.ko ko) (fun h' F' k' mq => q h' (F1.fs.trans F') k' mq)
    · rw [if_neg no] at q
      have w2 : ee_MW (eb_sI h1 s_m_fresh (11 + b * r + i) v) (some (ee_nfa tx n p)) := w1.fs
      exact M_row0 (d := d + 6) w2 _ _ (F1.fs.1.ko ko) (q _ F1.fs (F1.fs.1.ko ko) (Or.inl ⟨_, rfl, w2⟩))
theorem M_row {d : Nat} {h : eb_H} {Q : Option Value → eb_H → Prop} {tx : Nat → Nat} {n p a b c s : Nat} {D : ee_D} (ht : ∀ j, j < n → tx j < 256) (hn : n ≤ 900) (m : ee_MR tx n h p D) (dw : ee_DW D a b c s) (ko : eb_KO h) (q : ∀ h', ee_fx h h' → eb_KO h' → ee_MQ tx n h' (ee_lrow tx n p a b D) → Q none h') : eb_Ct (d + 7) 180 [.ref s_MO] h Q := by
  have c1 : (1 : Int32).toNatClampNeg = 1 := by decide
  obtain ⟨a', rfl⟩ : ∃ a', a = a' + 1 := ⟨a - 1, by have := dw.1.2.1; omega⟩
  have a4 := dw.1.2.2
  refine T_X11_readRow (d := d + 6) ko (M_nxR (d := d + 1) ht hn m ko (fun h1 F1 k1 m1 f1 => ⟨rfl, k1, ?_⟩))
  rw [c1, m1.2.2.1.1 1 (by omega) (by omega), dw.1.1, nI_pred]
  unfold ee_lrow ee_nb at q
  rw [Nat.add_sub_cancel] at q
  refine M_tkR (d := d) ht hn m1 0 a' (by omega) (by omega) k1 (fun ok h2 F2 k2 m2 => ⟨_, rfl, k2, ?_⟩) (fun no v h2 F2 k2 w2 ef => ⟨_, rfl, k2, ?_⟩)
  · rw [if_pos ok] at q
    have vl := ok.2.2
    exact M_rowl (d := d) ht hn dw.2.1.2.2 (by omega) b 0 _ D h2 (by omega) dw.2.1.1 m2 k2 (fun h' F' k' mq => q h' ((F1.trans F2).trans F') k' mq)
  · rw [if_neg no] at q
    exact M_row0 (d := d + 6) w2 _ _ k2 (q h2 (F1.trans F2) k2 (Or.inl ⟨_, rfl, w2⟩))
/-- the end of a line -/
def ee_end (tx : Nat → Nat) (n p : Nat) (D : ee_D) : ee_R := if ee_k tx n p = 30 then (ee_e tx n p, none, ee_set D 0 (D.1 0 + 1)) else (p, some (ee_fa tx n p 2), D)
theorem M_end {d : Nat} {h : eb_H} {Q : Option Value → eb_H → Prop} {tx : Nat → Nat} {n p : Nat} {D : ee_D} (ht : ∀ j, j < n → tx j < 256) (hn : n ≤ 900) (m : ee_MR tx n h p D) (ko : eb_KO h) (q : ∀ h', ee_fx h h' → eb_KO h' → ee_MQ tx n h' (ee_end tx n p D) → Q none h') : eb_Ct (d + 7) 187 [.ref s_MO] h Q := by
  have c0 : (0 : Int32).toNatClampNeg = 0 := by decide
  have m0 := m
  obtain ⟨m1, m2, m3, m4, m5⟩ := m
  obtain ⟨e1, e2, e3, e4⟩ := ee_e_le tx hn m5
  refine T_X11_ends (d := d + 6) ko ?_
  rw [c0]
  unfold ee_end at q
  refine M_eat1 (d := d) ht hn m5 m1 m2 (ee_k_lt tx n p) 30 (by omega) ko (fun k30 h1 F1 t1 => ⟨_, rfl, F1.1.ko ko, fun _ => ?_, fun z => absurd z (by decide)⟩) (fun k30 => ⟨_, rfl, ko, fun z => absurd rfl z, fun _ => ?_⟩)
  · rw [if_pos k30] at q
    have m' : ee_MR tx n h1 (ee_e tx n p) D := ⟨t1, m2.fo F1, by rw [F1.fresh]; exact m3, by omega, e1⟩
    rw [m'.2.2.1.1 0 (by omega) (by omega)]
    exact q _ F1.fx.fs (F1.fx.fs.1.ko ko) (Or.inr ⟨rfl, m'.set (by omega)⟩)
  · rw [if_neg k30] at q
    refine M_fl m1 m2 (ee_k_lt tx n p) 2 (by decide) 0 ko (fun h1 F1 w1 _ => ⟨rfl, F1.1.ko ko, ?_⟩)
    exact q _ F1.fx.fs (F1.fx.fs.1.ko ko) (Or.inl ⟨_, rfl, w1.fs⟩)
theorem M_end0 {d : Nat} {h : eb_H} {Q : Option Value → eb_H → Prop} {y : Int32 × Int32} (w : ee_MW h (some y)) (ko : eb_KO h) (q : ∀ h', ee_fx h h' → eb_KO h' → ee_MW h' (some y) → Q none h') : eb_Ct (d + 2) 187 [.ref s_MO] h Q :=
  T_X11_ends (d := d + 1) ko (M_eat0 (d := d) w _ ko ⟨_, rfl, ko, fun z => absurd rfl z, fun _ => M_fl0 w _ ko ⟨rfl, ko, q _ ee_fx.rfl.fs (ee_fx.rfl.fs.1.ko ko) w.fs⟩⟩)
end EBMROW
