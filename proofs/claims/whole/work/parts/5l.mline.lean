section EBMLINE
variable {L : Nat} {xs : Nat → Int32}
/-! ===== the lines, pure ===== -/
abbrev ee_R : Type := Nat × Option (Int32 × Int32) × ee_D
def ee_nb (tx : Nat → Nat) (n p lo hi : Nat) (D : ee_D) (k : Nat → Nat → ee_R) : ee_R := if ee_ok tx n p lo hi then k (ee_v tx n p) (ee_e tx n p) else (p, some (ee_nfa tx n p), D)
def ee_set (D : ee_D) (j : Nat) (v : Int32) : ee_D := (fun i => if i = j then v else D.1 i, D.2)
/-- rows, columns, bears, houses -/
def ee_DW (D : ee_D) (a b c s : Nat) : Prop := (D.1 1 = nI a ∧ 1 ≤ a ∧ a ≤ 4) ∧ (D.1 2 = nI b ∧ 1 ≤ b ∧ b ≤ 4) ∧ (D.1 3 = nI c ∧ 1 ≤ c ∧ c ≤ 6) ∧ (D.1 4 = nI s ∧ s ≤ 4)
theorem ee_DW.set {D : ee_D} {a b c s j : Nat} {v : Int32} (w : ee_DW D a b c s) (hj : 5 ≤ j ∨ j = 0) : ee_DW (ee_set D j v) a b c s := by
  refine ⟨⟨?_, w.1.2⟩, ⟨?_, w.2.1.2⟩, ⟨?_, w.2.2.1.2⟩, ?_, w.2.2.2.2⟩
  · exact (if_neg (by omega)).trans w.1.1
  · exact (if_neg (by omega)).trans w.2.1.1
  · exact (if_neg (by omega)).trans w.2.2.1.1
  · exact (if_neg (by omega)).trans w.2.2.2.1
theorem ee_mul4 : ∀ a, a < 5 → ∀ b, b < 5 → 1 ≤ a → 1 ≤ b → nI a * nI b - 1 = nI (a * b - 1) := by decide +kernel
theorem ee_rc {a b : Nat} (h1 : 1 ≤ a ∧ a ≤ 4) (h2 : 1 ≤ b ∧ b ≤ 4) : nI a * nI b - 1 = nI (a * b - 1) ∧ a * b - 1 < 16 := by
  refine ⟨ee_mul4 a (by omega) b (by omega) h1.1 h2.1, ?_⟩
  have : a * b ≤ 4 * 4 := Nat.mul_le_mul h1.2 h2.2
  omega
def ee_ldrift (tx : Nat → Nat) (n p a b : Nat) (D : ee_D) : ee_R := ee_nb tx n (ee_e tx n p) 0 (a * b - 1) D (fun c p2 => (p2, none, ee_set D 50 (D.1 50 ||| ((1 : Int32) <<< (nI c &&& 31)))))
def ee_lwind (tx : Nat → Nat) (n p : Nat) (D : ee_D) : ee_R := ee_nb tx n (ee_e tx n p) 0 9 D (fun v p2 => (p2, none, ee_set D 51 (nI v)))
def ee_lthing (tx : Nat → Nat) (n p a b : Nat) (D : ee_D) : ee_R := ee_nb tx n (ee_e tx n p) 0 (a * b - 1) D (fun c p2 => ee_nb tx n p2 0 6 D (fun v p3 => (p3, none, ee_set D (34 + c) (nI v))))
def ee_lhouse (tx : Nat → Nat) (n p a b s : Nat) (D : ee_D) : ee_R := if s = 4 then (p, some (4, nI (ee_b tx n p)), D) else ee_nb tx n (ee_e tx n p) 0 (a * b - 1) D (fun c p2 => (p2, none, ee_set (ee_set D (27 + s) (nI c)) 4 (nI (s + 1))))
def ee_rowl (tx : Nat → Nat) (n o : Nat) : Nat → Nat → Nat → ee_D → ee_R
  | 0, _, p, D => (p, none, D)
  | k + 1, i, p, D => ee_nb tx n p 0 9 D (fun v p2 => ee_rowl tx n o k (i + 1) p2 (ee_set D (11 + o + i) (nI v)))
def ee_lrow (tx : Nat → Nat) (n p a b : Nat) (D : ee_D) : ee_R := ee_nb tx n (ee_e tx n p) 0 (a - 1) D (fun r p2 => ee_rowl tx n (b * r) b 0 p2 D)
/-! ===== the reference's ===== -/
def ee_MR (tx : Nat → Nat) (n : Nat) (h : eb_H) (p : Nat) (D : ee_D) : Prop := ee_MT h tx n p ∧ ee_MW h none ∧ ee_RF (eb_I h s_m_fresh) D ∧ D.2.1 ≤ p ∧ p ≤ n
def ee_MQ (tx : Nat → Nat) (n : Nat) (h : eb_H) (r : ee_R) : Prop := (∃ y, r.2.1 = some y ∧ ee_MW h (some y)) ∨ (r.2.1 = none ∧ ee_MR tx n h r.1 r.2.2)
theorem ee_RF.set {F F' : Nat → Int32} {D : ee_D} {j : Nat} {v : Int32} (r : ee_RF F D) (hj : j < 5 ∨ (11 ≤ j ∧ j ≤ 51)) (e : ∀ i, F' i = if i = j then v else F i) : ee_RF F' (ee_set D j v) := by
  obtain ⟨r1, r2, r3, r4⟩ := r
  refine ⟨fun i a1 a2 => ?_, ?_, r3.mv ?_ ?_ ?_ (fun i hi => ?_) (Nat.le_refl _), r4.mv ?_ ?_ ?_ (fun i hi => ?_) (Nat.le_refl _)⟩
  · rw [e]
    show _ = if i = j then v else D.1 i
    by_cases z : i = j
    · rw [if_pos z, if_pos z]
    · rw [if_neg z, if_neg z]
      exact r1 i a1 a2
  · rw [e, if_neg (by omega)]; exact r2
  all_goals rw [e, if_neg (by omega)]
theorem ee_MR.set {tx : Nat → Nat} {n : Nat} {h : eb_H} {p j : Nat} {D : ee_D} {v : Int32} (m : ee_MR tx n h p D) (hj : j < 5 ∨ (11 ≤ j ∧ j ≤ 51)) : ee_MR tx n (eb_sI h s_m_fresh j v) p (ee_set D j v) := ⟨m.1.fs, m.2.1.fs, m.2.2.1.set hj (fun i => eb_I_sI), m.2.2.2⟩
theorem M_nxR {d : Nat} {h : eb_H} {Q : Option Value → eb_H → Prop} {tx : Nat → Nat} {n p : Nat} {D : ee_D} (ht : ∀ j, j < n → tx j < 256) (hn : n ≤ 900) (m : ee_MR tx n h p D) (ko : eb_KO h) (q : ∀ h', ee_fx h h' → eb_KO h' → ee_MR tx n h' (ee_e tx n p) D → eb_I h' s_m_fresh = eb_I h s_m_fresh → Q none h') : eb_Ct (d + 5) 164 [.ref s_MO] h Q := by
  obtain ⟨m1, m2, m3, m4, m5⟩ := m
  obtain ⟨e1, e2, e3, e4⟩ := ee_e_le tx hn m5
  exact M_next (d := d) ht hn m1.1 (ee_e tx n p) e1 m1.2.2.1 ko (fun h' F' t' => q h' F'.fx (F'.1.ko ko) ⟨t', m2.fo F', by rw [F'.fresh]; exact m3, by omega, e1⟩ F'.fresh)
theorem M_tkR {d : Nat} {h : eb_H} {Q : Option Value → eb_H → Prop} {tx : Nat → Nat} {n p : Nat} {D : ee_D} (ht : ∀ j, j < n → tx j < 256) (hn : n ≤ 900) (m : ee_MR tx n h p D) (lo hi : Nat) (hlo : lo < 1000) (hhi : hi < 1000) (ko : eb_KO h) (qo : ee_ok tx n p lo hi → ∀ h', ee_fx h h' → eb_KO h' → ee_MR tx n h' (ee_e tx n p) D → Q (some (.int (nI (ee_v tx n p)))) h') (qf : ¬ ee_ok tx n p lo hi → ∀ v h', ee_fx h h' → eb_KO h' → ee_MW h' (some (ee_nfa tx n p)) → eb_I h' s_m_fresh = eb_I h s_m_fresh → Q (some (.int v)) h') : eb_Ct (d + 6) 168 [.ref s_MO, .int (nI lo), .int (nI hi)] h Q := by
  obtain ⟨m1, m2, m3, m4, m5⟩ := m
  obtain ⟨e1, e2, e3, e4⟩ := ee_e_le tx hn m5
  exact M_tk (d := d) ht hn m5 m1 m2 lo hi hlo hhi 0 ko (fun ok h' F' t' => qo ok h' F'.fx (F'.1.ko ko) ⟨t', m2.fo F', by rw [F'.fresh]; exact m3, by omega, e1⟩) (fun no v h' F' w' ef => qf no v h' F'.fx (F'.1.ko ko) w' ef)
theorem M_rcR {d : Nat} {h : eb_H} {Q : Option Value → eb_H → Prop} {tx : Nat → Nat} {n p a b c s : Nat} {D : ee_D} (ht : ∀ j, j < n → tx j < 256) (hn : n ≤ 900) (m : ee_MR tx n h p D) (dw : ee_DW D a b c s) (ko : eb_KO h) (qo : ee_ok tx n p 0 (a * b - 1) → ∀ h', ee_fx h h' → eb_KO h' → ee_MR tx n h' (ee_e tx n p) D → Q (some (.int (nI (ee_v tx n p)))) h') (qf : ¬ ee_ok tx n p 0 (a * b - 1) → ∀ v h', ee_fx h h' → eb_KO h' → ee_MW h' (some (ee_nfa tx n p)) → eb_I h' s_m_fresh = eb_I h s_m_fresh → Q (some (.int v)) h') : eb_Ct (d + 7) 179 [.ref s_MO] h Q := by
  obtain ⟨x1, x2⟩ := ee_rc dw.1.2 dw.2.1.2
  have c1 : (1 : Int32).toNatClampNeg = 1 := by decide
  have c2 : (2 : Int32).toNatClampNeg = 2 := by decide
  refine T_X11_readCell (d := d + 6) ko ?_
  rw [c1, c2, m.2.2.1.1 1 (by omega) (by omega), m.2.2.1.1 2 (by omega) (by omega), dw.1.1, dw.2.1.1, x1]
  exact M_tkR (d := d) ht hn m 0 (a * b - 1) (by omega) (by omega) ko (fun ok h' F' k' m' => ⟨_, rfl, k', qo ok h' F' k' m'⟩) (fun no v h' F' k' w' ef => ⟨_, rfl, k', qf no v h' F' k' w' ef⟩)
theorem M_drift {d : Nat} {h : eb_H} {Q : Option Value → eb_H → Prop} {tx : Nat → Nat} {n p a b c s : Nat} {D : ee_D} (ht : ∀ j, j < n → tx j < 256) (hn : n ≤ 900) (m : ee_MR tx n h p D) (dw : ee_DW D a b c s) (ko : eb_KO h) (q : ∀ h', ee_fx h h' → eb_KO h' → ee_MQ tx n h' (ee_ldrift tx n p a b D) → Q none h') : eb_Ct (d + 8) 185 [.ref s_MO] h Q := by
  have c1 : (50 : Int32).toNatClampNeg = 50 := by decide
  refine T_X11_readDrift (d := d + 7) ko (M_nxR (d := d + 2) ht hn m ko (fun h1 F1 k1 m1 f1 => ⟨rfl, k1, ?_⟩))
  rw [c1, m1.2.2.1.1 50 (by omega) (by omega)]
  unfold ee_ldrift ee_nb at q
  refine M_rcR (d := d) ht hn m1 dw k1 (fun ok h2 F2 k2 m2 => ⟨_, rfl, k2, ?_⟩) (fun no v h2 F2 k2 w2 ef => ⟨_, rfl, k2, ?_⟩)
  · rw [if_pos ok] at q
    exact q _ ((F1.trans F2).fs) ((F1.trans F2).fs.1.ko ko) (Or.inr ⟨rfl, m2.set (by omega)⟩)
  · rw [if_neg no] at q
    exact q _ ((F1.trans F2).fs) ((F1.trans F2).fs.1.ko ko) (Or.inl ⟨_, rfl, w2.fs⟩)
theorem M_thing {d : Nat} {h : eb_H} {Q : Option Value → eb_H → Prop} {tx : Nat → Nat} {n p a b c s : Nat} {D : ee_D} (ht : ∀ j, j < n → tx j < 256) (hn : n ≤ 900) (m : ee_MR tx n h p D) (dw : ee_DW D a b c s) (ko : eb_KO h) (q : ∀ h', ee_fx h h' → eb_KO h' → ee_MQ tx n h' (ee_lthing tx n p a b D) → Q none h') : eb_Ct (d + 8) 181 [.ref s_MO] h Q := by
  obtain ⟨_, x2⟩ := ee_rc dw.1.2 dw.2.1.2
  refine T_X11_readThing (d := d + 7) ko (M_nxR (d := d + 2) ht hn m ko (fun h1 F1 k1 m1 f1 => ⟨rfl, k1, ?_⟩))
  unfold ee_lthing ee_nb at q
  refine M_rcR (d := d) ht hn m1 dw k1 (fun ok h2 F2 k2 m2 => ⟨_, rfl, k2, ?_⟩) (fun no v h2 F2 k2 w2 ef => ⟨_, rfl, k2, ?_⟩)
  · rw [if_pos ok] at q
    dsimp only at q
    have vl := ok.2.2
    have e34 : (34 : Int32) + nI (ee_v tx n (ee_e tx n p)) = nI (34 + ee_v tx n (ee_e tx n p)) := ec_9 34 _
    refine M_tkR (d := d + 1) ht hn m2 0 6 (by omega) (by omega) k2 (fun ok2 h3 F3 k3 m3 => ⟨_, rfl, k3, ?_⟩) (fun no v h3 F3 k3 w3 ef => ⟨_, rfl, k3, ?_⟩)
    · rw [if_pos ok2] at q
      refine ⟨fun z => absurd m3.2.1 z, fun _ => ?_⟩
      rw [e34, eb_cln (n := 34 + ee_v tx n (ee_e tx n p)) (by omega)]
      exact ⟨vp_in_nI (by omega) (by omega), q _ (((F1.trans F2).trans F3).fs) (((F1.trans F2).trans F3).fs.1.ko ko) (Or.inr ⟨rfl, m3.set (by omega)⟩)⟩
    · rw [if_neg no] at q
      exact ⟨fun _ => q _ ((F1.trans F2).trans F3) k3 (Or.inl ⟨_, rfl, w3⟩), fun z => absurd (w3.1.symm.trans z) w3.2.2⟩
  · rw [if_neg no] at q
    refine M_tk0 (d := d + 6) w2 _ _ k2 (fun v2 => ⟨_, rfl, k2, ?_⟩)
    exact ⟨fun _ => q _ (F1.trans F2) k2 (Or.inl ⟨_, rfl, w2⟩), fun z => absurd (w2.1.symm.trans z) w2.2.2⟩
theorem M_house {d : Nat} {h : eb_H} {Q : Option Value → eb_H → Prop} {tx : Nat → Nat} {n p a b c s : Nat} {D : ee_D} (ht : ∀ j, j < n → tx j < 256) (hn : n ≤ 900) (m : ee_MR tx n h p D) (dw : ee_DW D a b c s) (nb : ee_k tx n p ≠ 25) (ko : eb_KO h) (q : ∀ h', ee_fx h h' → eb_KO h' → ee_MQ tx n h' (ee_lhouse tx n p a b s D) → Q none h') : eb_Ct (d + 8) 182 [.ref s_MO] h Q := by
  have c4 : (4 : Int32).toNatClampNeg = 4 := by decide
  have e4 : eb_I h s_m_fresh 4 = nI s := (m.2.2.1.1 4 (by omega) (by omega)).trans dw.2.2.2.1
  have sl := dw.2.2.2.2
  have w0 : eb_I h s_MO 11 = 0 := m.2.1
  have es : nI s = (4 : Int32) ↔ s = 4 := nI_eq (b := 4) (by omega) (by omega)
  have e27 : (27 : Int32) + nI s = nI (27 + s) := ec_9 27 s
  refine T_X11_readHouse (d := d + 7) ko ?_
  rw [c4, e4, es, e27, eb_cln (n := 27 + s) (by omega)]
  unfold ee_lhouse ee_nb at q
  refine ⟨fun s4 => ⟨fun _ => ?_, fun z => absurd w0 z⟩, fun s4 => ?_⟩
  · rw [if_neg s4] at q
    refine M_nxR (d := d + 2) ht hn m ko (fun h1 F1 k1 m1 f1 => ⟨rfl, k1, ?_⟩)
    refine M_rcR (d := d) ht hn m1 dw k1 (fun ok h2 F2 k2 m2 => ⟨_, rfl, k2, vp_in_nI (by omega) (by omega), ?_⟩) (fun no v h2 F2 k2 w2 ef => ⟨_, rfl, k2, vp_in_nI (by omega) (by omega), ?_⟩)
    · rw [if_pos ok] at q
      have m3 := m2.set (j := 27 + s) (v := nI (ee_v tx n (ee_e tx n p))) (by omega)
      refine ⟨fun z => absurd m3.2.1 z, fun _ => ?_⟩
      have e5 : eb_I (eb_sI h2 s_m_fresh (27 + s) (nI (ee_v tx n (ee_e tx n p)))) s_m_fresh 4 = nI s := by
        rw [m3.2.2.1.1 4 (by omega) (by omega)]
        exact (if_neg (by omega)).trans dw.2.2.2.1
      rw [e5, nI_1]
      exact q _ ((F1.trans F2).fs.fs) ((F1.trans F2).fs.fs.1.ko ko) (Or.inr ⟨rfl, m3.set (by omega)⟩)
    · rw [if_neg no] at q
      have w3 : ee_MW (eb_sI h2 s_m_fresh (27 + s) v) (some (ee_nfa tx n (ee_e tx n p))) := w2.fs
      exact ⟨fun _ => q _ ((F1.trans F2).fs) ((F1.trans F2).fs.1.ko ko) (Or.inl ⟨_, rfl, w3⟩), fun z => absurd (w3.1.symm.trans z) w3.2.2⟩
  · rw [if_pos s4] at q
    refine M_fl m.1 m.2.1 (ee_k_lt tx n p) 4 (by decide) 0 ko (fun h1 F1 w1 _ => ⟨rfl, F1.1.ko ko, fun z => absurd (w1.1.symm.trans z) w1.2.2, fun _ => ?_⟩)
    refine q h1 F1.fx (F1.1.ko ko) (Or.inl ⟨_, rfl, ?_⟩)
    have : ee_fa tx n p 4 = (4, nI (ee_b tx n p)) := by unfold ee_fa; rw [if_neg nb]
    rw [this] at w1
    exact w1
end EBMLINE
