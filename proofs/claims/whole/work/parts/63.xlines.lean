section EBXLINES
variable {L : Nat} {xs : Nat → Int32}
def ee_rm (g0 h : eb_H) (p : Nat) : Prop := eb_n h ≤ eb_n g0 + 3 + 4 * p ∧ eb_z h ≤ eb_z g0 + 29 + 11 * p
def ee_rx (g0 h : eb_H) (n : Nat) : Prop := eb_n h ≤ eb_n g0 + 83 + 4 * n ∧ eb_z h ≤ eb_z g0 + 869 + 42 * n
def ee_XM (g0 h : eb_H) (v : Nat) (tx : Nat → Nat) (n : Nat) (r : ee_R) : Prop := (∃ y, r.2.1 = some y ∧ ee_XF g0 h v tx n y ∧ ee_rx g0 h n) ∨ (r.2.1 = none ∧ ee_XR g0 h v tx n r.1 r.2.2 ∧ ee_rm g0 h r.1)
theorem ee_lnE_ge {tx : Nat → Nat} {n p a b c s : Nat} {D : ee_D} (hn : n ≤ 900) (hp : p ≤ n) (dw : ee_DW D a b c s) (h : (ee_lnE tx n p a b c s D).2.1 = none) : p < (ee_lnE tx n p a b c s D).1 ∧ (ee_lnE tx n p a b c s D).1 ≤ n ∧ ∃ s', ee_DW (ee_lnE tx n p a b c s D).2.2 a b c s' := by
  unfold ee_lnE at h ⊢
  cases hl : (ee_line tx n p a b c s D).2.1 with
  | some y => rw [ee_rb_f hl] at h; cases h
  | none =>
    rw [ee_rb_n hl] at h ⊢
    obtain ⟨g1, g2, s', g3⟩ := ee_good_line hn hp dw hl
    obtain ⟨k30, e⟩ := ee_end_n h
    rw [e]
    obtain ⟨z1, z2⟩ := ee_gt hn g2 (show ee_k tx n (ee_line tx n p a b c s D).1 ≠ 24 by omega)
    exact ⟨Nat.lt_of_le_of_lt g1 z1, z2, s', g3.set (Or.inr rfl)⟩
theorem ee_lnE_lawf {tx : Nat → Nat} {n p a b c s : Nat} {D : ee_D} {tk : Bool} {y : Int32 × Int32} (el : ee_line tx n p a b c s D = ee_llaw tx n tk p D) (h : (ee_law tx n tk p).2.1 = some y) : (ee_lnE tx n p a b c s D).2.1 = some y := by
  unfold ee_lnE
  rw [el]
  rw [ee_law_0] at h
  unfold ee_llaw
  generalize ee_law0 tx n tk p = r at h ⊢
  obtain ⟨p1, F, cs⟩ := r
  cases F with
  | some y' =>
    have e := ee_bd_f (r := (p1, some y', cs)) (k := fun p1 cs => if ee_k tx n p1 = 30 then (p1, none, cs) else (p1, some (ee_fa tx n p1 2), [])) (y := y') rfl
    rw [e] at h
    rw [ee_rb_f (y := y') rfl]
    exact h
  | none =>
    have e := ee_bd_n (r := (p1, none, cs)) (k := fun p1 cs => if ee_k tx n p1 = 30 then (p1, none, cs) else (p1, some (ee_fa tx n p1 2), [])) rfl
    rw [e] at h
    rw [ee_rb_n rfl]
    unfold ee_end
    dsimp only at h ⊢
    by_cases z : ee_k tx n p1 = 30
    · rw [if_pos z] at h
      cases h
    · rw [if_neg z] at h ⊢
      exact h
theorem ee_lnE_lawo {tx : Nat → Nat} {n p a b c s : Nat} {D : ee_D} {tk : Bool} (el : ee_line tx n p a b c s D = ee_llaw tx n tk p D) (h : (ee_law tx n tk p).2.1 = none) : (ee_law0 tx n tk p).2.1 = none ∧ ee_law tx n tk p = ee_law0 tx n tk p ∧ ee_lnE tx n p a b c s D = ee_end tx n (ee_law tx n tk p).1 (ee_setl D tk (ee_law tx n tk p).2.2) := by
  unfold ee_lnE
  rw [el]
  rw [ee_law_0] at h ⊢
  unfold ee_llaw
  generalize ee_law0 tx n tk p = r at h ⊢
  obtain ⟨p1, F, cs⟩ := r
  cases F with
  | some y' =>
    have e := ee_bd_f (r := (p1, some y', cs)) (k := fun p1 cs => if ee_k tx n p1 = 30 then (p1, none, cs) else (p1, some (ee_fa tx n p1 2), [])) (y := y') rfl
    rw [e] at h
    cases h
  | none =>
    have e := ee_bd_n (r := (p1, none, cs)) (k := fun p1 cs => if ee_k tx n p1 = 30 then (p1, none, cs) else (p1, some (ee_fa tx n p1 2), [])) rfl
    rw [e] at h ⊢
    rw [ee_rb_n rfl]
    dsimp only at h ⊢
    by_cases z : ee_k tx n p1 = 30
    · rw [if_pos z]
      exact ⟨rfl, rfl, rfl⟩
    · rw [if_neg z] at h
      cases h
theorem ee_is_len {tx : Nat → Nat} {n p : Nat} (hn : n ≤ 900) (r : Nat) (hr : r < 17) (k : ee_k tx n p = r) : ee_e tx n p - ee_b tx n p = (ee_str (ee_kl.getD r 0)).length := by
  have := (ee_is_k hn r hr).mpr k
  unfold ee_is at this
  rw [Bool.and_eq_true] at this
  exact of_decide_eq_true this.1
/-- a law's line -/
theorem C_lln {d : Nat} {h g0 : eb_H} {Q : Option Value → eb_H → Prop} {tx : Nat → Nat} {n p v a b c s : Nat} {D : ee_D} (ht : ∀ j, j < n → tx j < 256) (hn : n ≤ 900) (x : ee_XR g0 h v tx n p D) (nb : ee_k tx n p ≠ 25) (rm : ee_rm g0 h p) (tk : Bool) (xv : Int32) (hx : xv = 0 ↔ ¬ tk = true) (k : Nat) (hk : k = if tk = true then 8 else 7) (h3 : p + 3 ≤ ee_e tx n p) (el : ee_line tx n p a b c s D = ee_llaw tx n tk p D) (q : ∀ h', ee_XM g0 h' v tx n (ee_lnE tx n p a b c s D) → Q none h') : eb_Ct (d + 8) 28 [.ref s_reader_laws, .int xv] h (fun r h52 => ∃ y53, r = some (.ref y53) ∧ eb_KO h52 ∧ (eb_kd y53 = 2) ∧ eb_Ct (d + 8) 50 [.ref s_reader] (eb_sR h52 v k (some y53)) (fun r h56 => r = none ∧ eb_KO h56 ∧ Q none h56)) := by
  have hp := x.2.2.2.2
  have e1 := (ee_e_le tx hn hp).1
  obtain ⟨m1, m2⟩ := rm
  refine C_lawX (d := d + 1) (R := fun g => eb_Ct (d + 8) 50 [.ref s_reader] g (fun r h56 => r = none ∧ eb_KO h56 ∧ Q none h56)) ht hn x nb tk xv hx k hk h3 (fun y ey h' x' n' z' => ?_) (fun ey h' x' k30 lt n' z' => ?_)
  · refine C_end0 (d := d) ht hn x' (fun h2 F2 x2 => ⟨rfl, x2.ko, q h2 (Or.inl ⟨y, ee_lnE_lawf el ey, x2, ?_⟩)⟩)
    have e2 : eb_n h2 = eb_n h' := F2.1.1.1
    have e3 : eb_z h2 = eb_z h' := F2.1.1.2.1
    unfold ee_rx
    omega
  · obtain ⟨l1, l2, l3⟩ := ee_lnE_lawo el ey
    have ln := ee_law0_len tk hn hp l1
    rw [← l2] at ln
    rw [l3] at q
    generalize ee_law tx n tk p = r at ln lt k30 x' z' q
    obtain ⟨p1, F, cs⟩ := r
    dsimp only at ln lt k30 x' z' q
    obtain ⟨g1, g2⟩ := ee_gt hn x'.2.2.2.2 (show ee_k tx n p1 ≠ 24 by omega)
    refine C_end (d := d) ht hn x' (fun h2 F2 x2 => ?_)
    have e2 : eb_n h2 = eb_n h' := F2.1.1.1
    have e3 : eb_z h2 = eb_z h' := F2.1.1.2.1
    have ee : ee_end tx n p1 (ee_setl D tk cs) = (ee_e tx n p1, none, ee_set (ee_setl D tk cs) 0 ((ee_setl D tk cs).1 0 + 1)) := by
      unfold ee_end
      rw [if_pos k30]
    rcases x2 with ⟨y, e, _⟩ | ⟨e, x2⟩
    · rw [ee] at e
      cases e
    · refine ⟨rfl, x2.ko, q h2 (Or.inr ⟨e, x2, ?_⟩)⟩
      rw [ee]
      show eb_n h2 ≤ eb_n g0 + 3 + 4 * ee_e tx n p1 ∧ eb_z h2 ≤ eb_z g0 + 29 + 11 * ee_e tx n p1
      omega
theorem C_line {d : Nat} {h g0 : eb_H} {Q : Option Value → eb_H → Prop} {tx : Nat → Nat} {n p v a b c s : Nat} {D : ee_D} (ht : ∀ j, j < n → tx j < 256) (hn : n ≤ 900) (x : ee_XR g0 h v tx n p D) (dw : ee_DW D a b c s) (nb : ee_k tx n p ≠ 25) (rm : ee_rm g0 h p) (q : ∀ h', ee_XM g0 h' v tx n (ee_lnE tx n p a b c s D) → Q none h') : eb_Ct (d + 9) 48 [.ref s_reader] h Q := by
  have hv := x.1.vk
  have hp := x.2.2.2.2
  have ko := x.ko
  have e1 := ee_e_le tx hn hp
  have fin : ∀ r, ee_line tx n p a b c s D = r → ∀ h1, ee_vf v h h1 → ee_XQ g0 h1 v tx n r → eb_Ct (d + 8) 50 [.ref s_reader] h1 (fun r h' => r = none ∧ eb_KO h' ∧ Q none h') := by
    intro r er h1 F1 x1
    rw [← er] at x1
    refine C_endQ (d := d) ht hn x1 (fun h' F' x' => ?_)
    have F := F1.trans F'
    have e2 : eb_n h' = eb_n h := F.1.1.1
    have e3 : eb_z h' = eb_z h := F.1.1.2.1
    obtain ⟨m1, m2⟩ := rm
    rcases x' with ⟨y, e, x'⟩ | ⟨e, x'⟩
    · refine ⟨rfl, x'.ko, q h' (Or.inl ⟨y, e, x', ?_⟩)⟩
      unfold ee_rx
      omega
    · refine ⟨rfl, x'.ko, q h' (Or.inr ⟨e, x', ?_⟩)⟩
      have g := (ee_lnE_ge hn hp dw e).1
      show eb_n h' ≤ eb_n g0 + 3 + 4 * (ee_lnE tx n p a b c s D).1 ∧ eb_z h' ≤ eb_z g0 + 29 + 11 * (ee_lnE tx n p a b c s D).1
      omega
  have el : ee_line tx n p a b c s D = (if ee_k tx n p = 2 then ee_lrow tx n p a b D else if ee_k tx n p = 3 then ee_lthing tx n p a b D else if ee_k tx n p = 4 then ee_ldrift tx n p a b D else if ee_k tx n p = 5 then ee_lhouse tx n p a b s D else if ee_k tx n p = 6 then ee_lwind tx n p D else if ee_k tx n p = 7 then ee_lbat tx n p a b c D else if ee_k tx n p = 8 then ee_llaw tx n false p D else if ee_k tx n p = 9 then ee_llaw tx n true p D else (p, some (ee_fa tx n p 2), D)) := rfl
  refine T_X5_readLine (d := d + 8) ko (C_isk (d := d + 4) ht hn hp x.2.1 2 16 (by decide) rfl ko ⟨_, rfl, ko, fun z => ?_, fun z => ?_⟩)
  rotate_left
  · rw [ee_i01] at z
    rw [if_pos (Decidable.not_not.mp z)] at el
    exact C_row (d := d) ht hn x dw nb (fun h' F' x' => ⟨rfl, F'.1.ko ko, fin _ el h' F' x'⟩)
  rw [ee_i01] at z
  rw [if_neg z] at el
  refine C_isk (d := d + 4) ht hn hp x.2.1 3 18 (by decide) rfl ko ⟨_, rfl, ko, fun z => ?_, fun z => ?_⟩
  rotate_left
  · rw [ee_i01] at z
    rw [if_pos (Decidable.not_not.mp z)] at el
    exact C_thing (d := d) ht hn x dw nb (fun h' F' x' => ⟨rfl, F'.1.ko ko, fin _ el h' F' x'⟩)
  rw [ee_i01] at z
  rw [if_neg z] at el
  refine C_isk (d := d + 4) ht hn hp x.2.1 4 8 (by decide) rfl ko ⟨_, rfl, ko, fun z => ?_, fun z => ?_⟩
  rotate_left
  · rw [ee_i01] at z
    rw [if_pos (Decidable.not_not.mp z)] at el
    exact C_drift (d := d) ht hn x dw nb (fun h' F' x' => ⟨rfl, F'.1.ko ko, fin _ el h' F' x'⟩)
  rw [ee_i01] at z
  rw [if_neg z] at el
  refine C_isk (d := d + 4) ht hn hp x.2.1 5 11 (by decide) rfl ko ⟨_, rfl, ko, fun z => ?_, fun z => ?_⟩
  rotate_left
  · rw [ee_i01] at z
    rw [if_pos (Decidable.not_not.mp z)] at el
    exact C_house (d := d) ht hn x dw nb (fun h' F' x' => ⟨rfl, F'.1.ko ko, fin _ el h' F' x'⟩)
  rw [ee_i01] at z
  rw [if_neg z] at el
  refine C_isk (d := d + 4) ht hn hp x.2.1 6 20 (by decide) rfl ko ⟨_, rfl, ko, fun z => ?_, fun z => ?_⟩
  rotate_left
  · rw [ee_i01] at z
    rw [if_pos (Decidable.not_not.mp z)] at el
    exact C_wind (d := d) ht hn x nb (fun h' F' x' => ⟨rfl, F'.1.ko ko, fin _ el h' F' x'⟩)
  rw [ee_i01] at z
  rw [if_neg z] at el
  refine C_isk (d := d + 4) ht hn hp x.2.1 7 5 (by decide) rfl ko ⟨_, rfl, ko, fun z => ?_, fun z => ?_⟩
  rotate_left
  · rw [ee_i01] at z
    rw [if_pos (Decidable.not_not.mp z)] at el
    exact C_bat (d := d) ht hn x dw nb (fun h' F' x' => ⟨rfl, F'.1.ko ko, fin _ el h' F' x'⟩)
  rw [ee_i01] at z
  rw [if_neg z] at el
  refine C_isk (d := d + 4) ht hn hp x.2.1 8 13 (by decide) rfl ko ⟨_, rfl, ko, fun z => ?_, fun z => ?_⟩
  rotate_left
  · rw [ee_i01] at z
    have z := Decidable.not_not.mp z
    rw [if_pos z] at el
    have ln : ee_e tx n p - ee_b tx n p = 3 := ee_is_len hn 8 (by decide) z
    exact ⟨v, x.1.2.2.2.1, hv.1, C_lln (d := d) ht hn x nb rm false 0 (by decide) 7 rfl (by omega) el q⟩
  rw [ee_i01] at z
  rw [if_neg z] at el
  refine C_isk (d := d + 4) ht hn hp x.2.1 9 17 (by decide) rfl ko ⟨_, rfl, ko, fun z => ?_, fun z => ?_⟩
  rotate_left
  · rw [ee_i01] at z
    have z := Decidable.not_not.mp z
    rw [if_pos z] at el
    have ln : ee_e tx n p - ee_b tx n p = 5 := ee_is_len hn 9 (by decide) z
    exact ⟨v, x.1.2.2.2.1, hv.1, C_lln (d := d) ht hn x nb rm true 1 (by decide) 8 rfl (by omega) el q⟩
  rw [ee_i01] at z
  rw [if_neg z] at el
  exact C_flR hn x 2 (by decide) (fun h' F' x' => ⟨rfl, x'.ko, fin _ el h' F'.vf (Or.inl ⟨_, rfl, x'⟩)⟩)
end EBXLINES
