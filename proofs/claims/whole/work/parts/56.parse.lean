section EBPARSE
variable {L : Nat} {xs : Nat → Int32}
/-! ===== a truth, read by descent ===== -/
def ee_fa (tx : Nat → Nat) (n p : Nat) (c : Int32) : Int32 × Int32 := (if ee_k tx n p = 25 then 1 else c, nI (ee_b tx n p))
def ee_wd (tk : Bool) (k : Nat) : Nat := if k = 10 then 0 else if k = 11 then 1 else if k = 12 then 2 else if k = 6 then 3 else if k = 13 then 4 else if k = 3 then (if tk = true then 5 else 9) else 9
/-- the codes of the levels: times 0, plus and minus 1, and 2, or 3 -/
def ee_op (l k : Nat) : Nat := if l = 0 ∧ k = 34 then 3002 else if l = 1 ∧ k = 32 then 3000 else if l = 1 ∧ k = 33 then 3001 else if l = 2 ∧ k = 14 then 3007 else if l = 3 ∧ k = 15 then 3008 else 0
def ee_sub (l : Nat) : Nat := if l = 0 then 0 else if l = 1 then 2 else if l = 2 then 1 else 6
def ee_bd (r : Nat × Option (Int32 × Int32) × List Nat) (k : Nat → List Nat → Nat × Option (Int32 × Int32) × List Nat) : Nat × Option (Int32 × Int32) × List Nat := match r with
  | (p, some x, _) => (p, some x, [])
  | (p, none, cs) => k p cs
/-- 0 an atom, 1 a unit, 2 + 2 l a chain of a level, 3 + 2 l the rest of it -/
def ee_pa (tx : Nat → Nat) (n : Nat) (tk : Bool) : Nat → Nat → Nat → Nat → List Nat → Nat × Option (Int32 × Int32) × List Nat
  | 0, _, _, p, _ => (p, some (9, 9), [])
  | f + 1, m, dp, p, acc =>
    if m = 0 then
      (if ee_k tx n p = 23 then (ee_e tx n p, none, [ee_v tx n p]) else if ee_wd tk (ee_k tx n p) < 9 then (ee_e tx n p, none, [1000 + ee_wd tk (ee_k tx n p)]) else if ee_k tx n p = 35 then (if dp = 6 then (p, some (4, nI (ee_b tx n p)), []) else ee_bd (ee_pa tx n tk f 4 (dp + 1) (ee_e tx n p) []) (fun p1 cs => if ee_k tx n p1 = 36 then (ee_e tx n p1, none, cs) else (p1, some (ee_fa tx n p1 2), []))) else (p, some (ee_fa tx n p 2), []))
    else if m = 1 then
      (if ee_k tx n p = 16 then (if dp = 6 then (p, some (4, nI (ee_b tx n p)), []) else ee_bd (ee_pa tx n tk f 1 (dp + 1) (ee_e tx n p) []) (fun p1 cs => (p1, none, cs ++ [3006]))) else if ee_k tx n p = 37 then (if dp = 6 then (p, some (4, nI (ee_b tx n p)), []) else ee_bd (ee_pa tx n tk f 8 (dp + 1) (ee_e tx n p) []) (fun p1 cs => if ee_k tx n p1 = 38 then (ee_e tx n p1, none, cs) else (p1, some (ee_fa tx n p1 2), []))) else ee_bd (ee_pa tx n tk f 4 dp p []) (fun p1 cs1 => if 39 ≤ ee_k tx n p1 ∧ ee_k tx n p1 ≤ 41 then ee_bd (ee_pa tx n tk f 4 dp (ee_e tx n p1) []) (fun p2 cs2 => (p2, none, cs1 ++ cs2 ++ [3003 + (ee_k tx n p1 - 39)])) else (p1, some (ee_fa tx n p1 2), [])))
    else if m % 2 = 0 then ee_bd (ee_pa tx n tk f (ee_sub ((m - 2) / 2)) dp p []) (fun p1 cs => ee_pa tx n tk f (m + 1) dp p1 cs)
    else if ee_op ((m - 3) / 2) (ee_k tx n p) = 0 then (p, none, acc) else ee_bd (ee_pa tx n tk f (ee_sub ((m - 3) / 2)) dp (ee_e tx n p) []) (fun p1 cs => ee_pa tx n tk f m dp p1 (acc ++ cs ++ [ee_op ((m - 3) / 2) (ee_k tx n p)]))
/-- the reference's codes, as the class has them -/
def ee_t1 (c : Nat) : Nat := if c = 3000 then 1060 else if c = 3001 then 1061 else if c = 3002 then 1070 else if c = 3003 then 1050 else if c = 3004 then 1051 else if c = 3005 then 1052 else if c = 3006 then 1040 else if c = 3007 then 1030 else if c = 3008 then 1020 else c
/-! the class's loop over the tokens of a law -/
def ee_HD (d : Nat) (h0 : eb_H) (Q : Option Value → eb_H → Prop) (x : Int32) (g : eb_H) (i : Nat) : Prop := eb_Sn (d + 7) m_X3_readTruth h0 40 [(0, .ref s_reader_laws), (1, .int x), (2, .int (nI i))] [] g Q
def ee_fw (h h' : eb_H) : Prop := ec_fr (fun c => ee_fq c ∨ c = s_tape) h h' ∧ eb_I h' s_tape 1 = eb_I h s_tape 1
theorem ee_fw.trans {h h1 h2 : eb_H} (a : ee_fw h h1) (b : ee_fw h1 h2) : ee_fw h h2 := ⟨a.1.trans b.1, b.2.trans a.2⟩
theorem ee_ft.fw {h h' : eb_H} (a : ee_ft h h') : ee_fw h h' := ⟨a.1.weak (fun c z => Or.inr z), a.2⟩
theorem ee_fw.q {h h' : eb_H} (a : ec_fr ee_fq h h') : ee_fw h h' := ⟨a.weak (fun c z => Or.inl z), by rw [a.2.2 _ (by unfold ee_fq; decide)]⟩
theorem ee_XT.q {h h' : eb_H} {tx : Nat → Nat} {n p : Nat} {F : Option (Int32 × Int32)} (t : ee_XT h tx n p F) (a : ec_fr ee_fq h h') : ee_XT h' tx n p F := by
  unfold ee_XT ee_TX
  rw [a.2.2 s_tape (by unfold ee_fq; decide), a.2.2 s_tape_text (by unfold ee_fq; decide)]
  exact t
theorem ee_nf_n {tx : Nat → Nat} {n p : Nat} (hn : n ≤ 900) : ee_nf tx n p = none ↔ ee_k tx n p ≠ 25 := by
  have := ee_k_bad (tx := tx) (p := p) hn
  unfold ee_nf
  by_cases z : ee_bad tx n p = true
  · rw [if_pos z]
    exact ⟨fun u => (by cases u), fun u => absurd (this.mpr z) u⟩
  · rw [if_neg z]
    exact ⟨fun _ u => z (this.mp u), fun _ => rfl⟩
theorem ee_nf_s {tx : Nat → Nat} {n p : Nat} (hn : n ≤ 900) (h : ee_k tx n p = 25) (c : Int32) : ee_nf tx n p = some (ee_fa tx n p c) := by
  have := (ee_k_bad (tx := tx) (p := p) hn).mp h
  unfold ee_nf ee_fa
  rw [if_pos this, if_pos h]
/-- where the loop stands -/
def ee_SS (gB : eb_H) (tx : Nat → Nat) (n : Nat) (g : eb_H) (p : Nat) (C W : List Nat) (dp ps br sd wa fr i : Nat) : Prop := ee_fw gB g ∧ ee_XT g tx n p (ee_nf tx n p) ∧ ee_LR g C W dp ps br sd wa fr ∧ C.length + W.length ≤ i ∧ i + 4 ≤ p ∧ p ≤ n
/-- a turn of the loop -/
theorem S_gen {d : Nat} {h0 gB g : eb_H} {Q : Option Value → eb_H → Prop} {tx : Nat → Nat} {n p : Nat} {C W : List Nat} {dp ps br sd wa fr i : Nat} (ht : ∀ j, j < n → tx j < 256) (hn : n ≤ 900) (tk : Bool) (x : Int32) (hx : x = 0 ↔ ¬ tk = true) (S : ee_SS gB tx n g p C W dp ps br sd wa fr i) (ko : eb_KO gB) (nb : ee_k tx n p ≠ 25) (nov : ¬ (ee_k tx n p = 30 ∧ wa = 0 ∧ sd ≠ 0 ∧ ps = 0 ∧ br = 0)) (hb : sd < 3 ∧ ps < 1000 ∧ br < 1000 ∧ wa < 2)
    (w1 : wa = 1 → eb_Ct (d + 6) 34 [.ref s_reader_laws, .int (ee_ci (ee_cc tk (ee_k tx n p) (ee_v tx n p)))] g (fun r h' => ∃ y, r = some (.int y) ∧ eb_KO h' ∧ ((¬ y = 0 → eb_Ct (d + 6) 69 [.ref s_tape] h' (fun r h2 => r = none ∧ eb_KO h2 ∧ ee_HD d h0 Q x h2 (i + 1))) ∧ (y = 0 → eb_Ct (d + 6) 68 [.ref s_tape, .int 2] h' (fun r h2 => r = none ∧ eb_KO h2 ∧ eb_Ct (d + 6) 69 [.ref s_tape] h2 (fun r h3 => r = none ∧ eb_KO h3 ∧ ee_HD d h0 Q x h3 (i + 1)))))))
    (w0 : wa = 0 → eb_Ct (d + 6) 35 [.ref s_reader_laws, .int (ee_ci (ee_cc tk (ee_k tx n p) (ee_v tx n p)))] g (fun r h' => ∃ y, r = some (.int y) ∧ eb_KO h' ∧ ((¬ y = 0 → eb_Ct (d + 6) 69 [.ref s_tape] h' (fun r h2 => r = none ∧ eb_KO h2 ∧ ee_HD d h0 Q x h2 (i + 1))) ∧ (y = 0 → eb_Ct (d + 6) 68 [.ref s_tape, .int 2] h' (fun r h2 => r = none ∧ eb_KO h2 ∧ eb_Ct (d + 6) 69 [.ref s_tape] h2 (fun r h3 => r = none ∧ eb_KO h3 ∧ ee_HD d h0 Q x h3 (i + 1))))))) : ee_HD d h0 Q x g i := by
  obtain ⟨s1, s2, s3, s4, s5, s6⟩ := S
  have kg := s1.1.ko ko
  have nf : ee_nf tx n p = none := (ee_nf_n hn).mpr nb
  rw [nf] at s2
  have e7 : eb_I g s_tape 7 = 0 := s2.2.2.2.2.2.1
  have l9 := s3.2.2.2.2.2.2.1
  refine b_X3_readTruth_40 (d := d + 6) _ _ kg ⟨fun z => absurd z (nI_ge (a := i) (b := 900) (by omega) (by omega)), fun _ => ⟨fun z => absurd e7 z, fun _ => ?_⟩⟩
  rw [nI_1]
  refine T_X3_isOver (d := d + 5) kg (C_semi (d := d + 1) ht hn s6 s2 kg ⟨_, rfl, kg, _, rfl, kg, ?_⟩)
  have no : ¬ ((¬ ((if ee_k tx n p = 30 then (1 : Int32) else 0) = 0)) ∧ (((eb_I g s_reader_laws 9) = 0) ∧ ((¬ ((eb_I g s_reader_laws 8) = 0)) ∧ (((eb_I g s_reader_laws 6) = 0) ∧ ((eb_I g s_reader_laws 7) = 0))))) := by
    rintro ⟨z1, z2, z3, z4, z5⟩
    apply nov
    rw [ee_i01, Decidable.not_not] at z1
    rw [l9] at z2
    rw [s3.2.2.2.2.2.1] at z3
    rw [s3.2.2.2.1] at z4
    rw [s3.2.2.2.2.1] at z5
    have z2 : nI wa = nI 0 := z2
    have z4 : nI ps = nI 0 := z4
    have z5 : nI br = nI 0 := z5
    rw [nI_eq (by omega) (by omega)] at z2 z4 z5
    exact ⟨z1, z2, fun u => z3 (by rw [u]; rfl), z4, z5⟩
  rw [eb_qf no]
  refine ⟨fun z => absurd rfl z, fun _ => ?_⟩
  refine C_cah (d := d) ht hn s6 s2 tk x hx nb kg ⟨_, rfl, kg, fun z => ?_, fun z => ?_⟩
  · rw [l9] at z
    have z : nI wa = nI 0 := z
    rw [nI_eq (by omega) (by omega)] at z
    exact (w0 z).mono (fun r h' u => by
      obtain ⟨y, u1, u2, u3, u4⟩ := u
      exact ⟨y, u1, u2, u3, u4⟩)
  · rw [l9] at z
    have : wa = 1 := by
      have : ¬ wa = 0 := fun u => z (by rw [u]; rfl)
      omega
    exact (w1 this).mono (fun r h' u => by
      obtain ⟨y, u1, u2, u3, u4⟩ := u
      exact ⟨y, u1, u2, u3, u4⟩)
/-- behind an act that stands: the next token -/
theorem S_ok {d : Nat} {h0 gB g h' : eb_H} {Q : Option Value → eb_H → Prop} {tx : Nat → Nat} {n p : Nat} {x : Int32} {i : Nat} {C W : List Nat} {dp ps br sd wa fr : Nat} (ht : ∀ j, j < n → tx j < 256) (hn : n ≤ 900) (fw : ee_fw gB g) (t : ee_XT g tx n p none) (hp : p ≤ n) (hi : i + 4 ≤ p) (ne : ee_k tx n p ≠ 24) (ko : eb_KO gB) (F : ec_fr ee_fq g h') (l : ee_LR h' C W dp ps br sd wa fr) (hc : C.length + W.length ≤ i + 1) (K : ∀ g', ee_SS gB tx n g' (ee_e tx n p) C W dp ps br sd wa fr (i + 1) → ee_HD d h0 Q x g' (i + 1)) : eb_Ct (d + 6) 69 [.ref s_tape] h' (fun r h2 => r = none ∧ eb_KO h2 ∧ ee_HD d h0 Q x h2 (i + 1)) := by
  have k' := F.ko (fw.1.ko ko)
  obtain ⟨e1, e2, e3, e4⟩ := ee_e_le tx hn hp
  have eg : ee_b tx n p < ee_e tx n p := by
    refine (ee_eb_le tx hn e3).2.2 (fun z => ne ?_)
    unfold ee_k
    rw [if_pos z]
  refine C_adv (d := d) ht hn hp (t.q F) k' (fun h2 F2 x2 => ⟨rfl, F2.1.ko k', K h2 ⟨(fw.trans (ee_fw.q F)).trans F2.fw, x2, l.fr F2.1 (by decide) (by decide) (by decide), hc, ?_, e1⟩⟩)
  omega
/-- behind an act that doesn't: the fault -/
theorem S_bad {d : Nat} {h0 gB g : eb_H} {Q : Option Value → eb_H → Prop} {tx : Nat → Nat} {n p : Nat} {x : Int32} {i : Nat} (ht : ∀ j, j < n → tx j < 256) (hn : n ≤ 900) (fw : ee_fw gB g) (t : ee_XT g tx n p none) (hp : p ≤ n) (ko : eb_KO gB) (ls : ee_LS g) (nb : ee_k tx n p ≠ 25) (K : ∀ g' i', ee_fw gB g' → (∃ p', p' ≤ n ∧ ee_XT g' tx n p' (some (ee_fa tx n p 2))) → ee_LS g' → ee_HD d h0 Q x g' i') : eb_Ct (d + 6) 68 [.ref s_tape, .int 2] g (fun r h2 => r = none ∧ eb_KO h2 ∧ eb_Ct (d + 6) 69 [.ref s_tape] h2 (fun r h3 => r = none ∧ eb_KO h3 ∧ ee_HD d h0 Q x h3 (i + 1))) := by
  have kg := fw.1.ko ko
  refine C_fl t 2 (by decide) kg (fun h2 F2 t2 => ⟨rfl, F2.1.ko kg, ?_⟩)
  have k2 := F2.1.ko kg
  refine C_adv (d := d) ht hn hp t2 k2 (fun h3 F3 t3 => ⟨rfl, F3.1.ko k2, ?_⟩)
  refine K h3 (i + 1) ((fw.trans F2.fw).trans F3.fw) ⟨p, hp, ?_⟩ ((ls.fr F2.1 (by decide) (by decide) (by decide)).fr F3.1 (by decide) (by decide) (by decide))
  unfold ee_fa
  rw [if_neg nb]
  exact t3
end EBPARSE
