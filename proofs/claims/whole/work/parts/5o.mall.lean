section EBMALL
variable {L : Nat} {xs : Nat → Int32}
def ee_llaw (tx : Nat → Nat) (n : Nat) (tk : Bool) (p : Nat) (D : ee_D) : ee_R := ((ee_law0 tx n tk p).1, (ee_law0 tx n tk p).2.1, ee_setl D tk (ee_law0 tx n tk p).2.2)
/-- a line, but its ; -/
def ee_line (tx : Nat → Nat) (n p a b c s : Nat) (D : ee_D) : ee_R := if ee_k tx n p = 2 then ee_lrow tx n p a b D else if ee_k tx n p = 3 then ee_lthing tx n p a b D else if ee_k tx n p = 4 then ee_ldrift tx n p a b D else if ee_k tx n p = 5 then ee_lhouse tx n p a b s D else if ee_k tx n p = 6 then ee_lwind tx n p D else if ee_k tx n p = 7 then ee_lbat tx n p a b c D else if ee_k tx n p = 8 then ee_llaw tx n false p D else if ee_k tx n p = 9 then ee_llaw tx n true p D else (p, some (ee_fa tx n p 2), D)
theorem M_law {d : Nat} {h : eb_H} {Q : Option Value → eb_H → Prop} {tx : Nat → Nat} {n p : Nat} {D : ee_D} (ht : ∀ j, j < n → tx j < 256) (hn : n ≤ 900) (m : ee_MR tx n h p D) (ne : ee_k tx n p ≠ 24) (tk : Bool) (x : Int32) (hx : x = nI (if tk = true then 1 else 0)) (ko : eb_KO h) (q : ∀ h', ee_fx h h' → eb_KO h' → ee_MQ tx n h' (ee_llaw tx n tk p D) → Q none h') : eb_Ct (d + 66) 184 [.ref s_MO, .int x] h Q := by
  rw [hx]
  exact M_rl (d := d) ht hn m.2.2.2.2 m.1 m.2.1 m.2.2.1 m.2.2.2.1 ne tk ko (fun y e h' F' w' => q h' F' (F'.1.ko ko) (Or.inl ⟨y, e, w'⟩)) (fun e h' F' t' w' r' l' _ n' => q h' F' (F'.1.ko ko) (Or.inr ⟨e, t', w', r', l', n'⟩))
theorem M_line {d : Nat} {h : eb_H} {Q : Option Value → eb_H → Prop} {tx : Nat → Nat} {n p a b c s : Nat} {D : ee_D} (ht : ∀ j, j < n → tx j < 256) (hn : n ≤ 900) (m : ee_MR tx n h p D) (dw : ee_DW D a b c s) (ko : eb_KO h) (q : ∀ h', ee_fx h h' → eb_KO h' → ee_MQ tx n h' (ee_line tx n p a b c s D) → Q none h') : eb_Ct (d + 67) 186 [.ref s_MO] h Q := by
  have kl := ee_k_lt tx n p
  have m0 := m
  obtain ⟨m1, m2, m3, m4, m5⟩ := m
  have e9 := m1.2.2.2.1
  unfold ee_line at q
  refine T_X11_readLine (d := d + 66) ko ⟨fun _ => ?_, fun z => absurd m2 z⟩
  refine M_is1 m1 m2 kl 2 (by omega) ko ⟨_, rfl, ko, fun z2 => ?_, fun z2 => ?_⟩
  · rw [ee_i01] at z2
    rw [if_neg z2] at q
    refine M_is1 m1 m2 kl 3 (by omega) ko ⟨_, rfl, ko, fun z3 => ?_, fun z3 => ?_⟩
    · rw [ee_i01] at z3
      rw [if_neg z3] at q
      refine M_is1 m1 m2 kl 4 (by omega) ko ⟨_, rfl, ko, fun z4 => ?_, fun z4 => ?_⟩
      · rw [ee_i01] at z4
        rw [if_neg z4] at q
        refine M_is1 m1 m2 kl 5 (by omega) ko ⟨_, rfl, ko, fun z5 => ?_, fun z5 => ?_⟩
        · rw [ee_i01] at z5
          rw [if_neg z5] at q
          refine M_eat1 (d := d + 60) ht hn m5 m1 m2 kl 6 (by omega) ko (fun z6 h1 F1 t1 => ⟨_, rfl, F1.1.ko ko, fun u => absurd u (by decide), fun _ => ?_⟩) (fun z6 => ⟨_, rfl, ko, fun _ => ?_, fun u => absurd rfl u⟩)
          · rw [if_pos z6] at q
            unfold ee_lwind ee_nb at q
            have k1 := F1.1.ko ko
            obtain ⟨e1, e2, e3, e4⟩ := ee_e_le tx hn m5
            have m' : ee_MR tx n h1 (ee_e tx n p) D := ⟨t1, m2.fo F1, by rw [F1.fresh]; exact m3, by omega, e1⟩
            have c51 : (51 : Int32).toNatClampNeg = 51 := by decide
            rw [c51]
            refine M_tkR (d := d + 60) ht hn m' 0 9 (by omega) (by omega) k1 (fun ok h2 F2 k2 m2 => ⟨_, rfl, k2, ?_⟩) (fun no v h2 F2 k2 w2 ef => ⟨_, rfl, k2, ?_⟩)
            · rw [if_pos ok] at q
              exact q _ ((F1.fx.trans F2).fs) ((F1.fx.trans F2).fs.1.ko ko) (Or.inr ⟨rfl, m2.set (by omega)⟩)
            · rw [if_neg no] at q
              exact q _ ((F1.fx.trans F2).fs) ((F1.fx.trans F2).fs.1.ko ko) (Or.inl ⟨_, rfl, w2.fs⟩)
          · rw [if_neg z6] at q
            refine M_is1 m1 m2 kl 7 (by omega) ko ⟨_, rfl, ko, fun z7 => ?_, fun z7 => ?_⟩
            · rw [ee_i01] at z7
              rw [if_neg z7] at q
              refine M_is1 m1 m2 kl 8 (by omega) ko ⟨_, rfl, ko, fun z8 => ?_, fun z8 => ?_⟩
              · rw [ee_i01] at z8
                have z8 := Decidable.not_not.mp z8
                rw [if_pos z8] at q
                exact M_law (d := d) ht hn m0 (by omega) false _ (by rw [e9, z8]; decide) ko (fun h' F' k' mq => ⟨rfl, k', q h' F' k' mq⟩)
              · rw [ee_i01] at z8
                rw [if_neg z8] at q
                refine M_is1 m1 m2 kl 9 (by omega) ko ⟨_, rfl, ko, fun z9 => ?_, fun z9 => ?_⟩
                · rw [ee_i01] at z9
                  rw [if_neg z9] at q
                  exact M_fl m1 m2 kl 2 (by decide) 0 ko (fun h1 F1 w1 _ => ⟨rfl, F1.1.ko ko, q h1 F1.fx (F1.1.ko ko) (Or.inl ⟨_, rfl, w1⟩)⟩)
                · rw [ee_i01] at z9
                  have z9 := Decidable.not_not.mp z9
                  rw [if_pos z9] at q
                  exact M_law (d := d) ht hn m0 (by omega) true _ (by rw [e9, z9]; decide) ko (fun h' F' k' mq => ⟨rfl, k', q h' F' k' mq⟩)
            · rw [ee_i01] at z7
              have z7 := Decidable.not_not.mp z7
              rw [if_pos z7] at q
              exact M_bat (d := d + 58) ht hn m0 dw ko (fun h' F' k' mq => ⟨rfl, k', q h' F' k' mq⟩)
        · rw [ee_i01] at z5
          have z5 := Decidable.not_not.mp z5
          rw [if_pos z5] at q
          exact M_house (d := d + 58) ht hn m0 dw (by omega) ko (fun h' F' k' mq => ⟨rfl, k', q h' F' k' mq⟩)
      · rw [ee_i01] at z4
        have z4 := Decidable.not_not.mp z4
        rw [if_pos z4] at q
        exact M_drift (d := d + 58) ht hn m0 dw ko (fun h' F' k' mq => ⟨rfl, k', q h' F' k' mq⟩)
    · rw [ee_i01] at z3
      have z3 := Decidable.not_not.mp z3
      rw [if_pos z3] at q
      exact M_thing (d := d + 58) ht hn m0 dw ko (fun h' F' k' mq => ⟨rfl, k', q h' F' k' mq⟩)
  · rw [ee_i01] at z2
    have z2 := Decidable.not_not.mp z2
    rw [if_pos z2] at q
    exact M_row (d := d + 59) ht hn m0 dw ko (fun h' F' k' mq => ⟨rfl, k', q h' F' k' mq⟩)
end EBMALL
