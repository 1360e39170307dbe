section EBINIT
variable {L : Nat} {xs : Nat → Int32}
/-! ===== the two constructors: what was written, the latest first ===== -/
abbrev eb_S : Type := Nat × Nat × List (Nat × Nat × Int32) × List (Nat × Nat × Option Nat)
def es_I : List (Nat × Nat × Int32) → Nat → Nat → Int32
  | [], _, _ => 0
  | e :: l, c, j => if c = e.1 ∧ j = e.2.1 then e.2.2 else es_I l c j
def es_R : List (Nat × Nat × Option Nat) → Nat → Nat → Option Nat
  | [], _, _ => none
  | e :: l, c, j => if c = e.1 ∧ j = e.2.1 then e.2.2 else es_R l c j
def es_nw (s : eb_S) (sl : Nat) : eb_S := (s.1 + 1, s.2.1 + sl, s.2.2)
def es_sI (s : eb_S) (i k : Nat) (v : Int32) : eb_S := (s.1, s.2.1, (i, k, v) :: s.2.2.1, s.2.2.2)
def es_sR (s : eb_S) (i k : Nat) (v : Option Nat) : eb_S := (s.1, s.2.1, s.2.2.1, (i, k, v) :: s.2.2.2)
def eb_ini (L : Nat) (xs : Nat → Int32) (s : eb_S) (h : eb_H) : Prop := (eb_n h = s.1 ∧ eb_z h = s.2.1) ∧ (∀ c j, eb_I h c j = es_I s.2.2.1 c j) ∧ (∀ c j, eb_J h c j = 0) ∧ (∀ c j, eb_R h c j = es_R s.2.2.2 c j) ∧ (∀ e, e ∈ s.2.2.1 → eb_ix e.1 < s.1) ∧ (∀ e, e ∈ s.2.2.2 → eb_ix e.1 < s.1) ∧ eb_XL h = L ∧ eb_X h = xs
theorem es_I_out {n c : Nat} (hc : n ≤ eb_ix c) : ∀ (l : List (Nat × Nat × Int32)), (∀ e, e ∈ l → eb_ix e.1 < n) → ∀ j, es_I l c j = 0
  | [], _, _ => rfl
  | e :: l, h, j => by
    unfold es_I
    rw [if_neg (fun z => by
      have := h e List.mem_cons_self
      rw [← z.1] at this
      omega)]
    exact es_I_out hc l (fun e he => h e (List.mem_cons_of_mem _ he)) j
theorem es_R_out {n c : Nat} (hc : n ≤ eb_ix c) : ∀ (l : List (Nat × Nat × Option Nat)), (∀ e, e ∈ l → eb_ix e.1 < n) → ∀ j, es_R l c j = none
  | [], _, _ => rfl
  | e :: l, h, j => by
    unfold es_R
    rw [if_neg (fun z => by
      have := h e List.mem_cons_self
      rw [← z.1] at this
      omega)]
    exact es_R_out hc l (fun e he => h e (List.mem_cons_of_mem _ he)) j
theorem eb_ini.nx {s : eb_S} {h : eb_H} (E : eb_ini L xs s h) {r k len : Nat} (e : r = eb_nx h k len) : r = eb_mk s.1 k len := by
  rw [e, eb_nx, E.1.1]
theorem eb_ini.nw {s : eb_S} {h h1 : eb_H} (E : eb_ini L xs s h) {k len sl : Nat} (e : h1 = eb_nw h k len sl) (hk : k < 32) (hl : len < 16384) : eb_ini L xs (es_nw s sl) h1 := by
  subst e
  obtain ⟨⟨a1, a2⟩, a3, a4, a5, a6, a7, a8, a9⟩ := E
  have ix : eb_ix (eb_nx h k len) = s.1 := by rw [eb_nx, eb_mk_ix hk hl]; exact a1
  refine ⟨⟨by show eb_n h + 1 = s.1 + 1; rw [a1], by show eb_z h + sl = s.2.1 + sl; rw [a2]⟩, fun c j => ?_, fun c j => ?_, fun c j => ?_, fun x hx => Nat.lt_succ_of_lt (a6 x hx), fun x hx => Nat.lt_succ_of_lt (a7 x hx), a8, a9⟩
  · by_cases z : c = eb_nx h k len
    · rw [z, ee_nw_I0]
      exact (es_I_out (Nat.le_of_eq ix.symm) _ a6 j).symm
    · rw [ee_nw_I z]
      exact a3 c j
  · by_cases z : c = eb_nx h k len
    · rw [z]
      simp [eb_J, eb_nw, va_up]
    · rw [ee_nw_J z]
      exact a4 c j
  · by_cases z : c = eb_nx h k len
    · rw [z, ee_nw_R0]
      exact (es_R_out (Nat.le_of_eq ix.symm) _ a7 j).symm
    · rw [ee_nw_R z]
      exact a5 c j
theorem eb_ini.sI {s : eb_S} {h h1 : eb_H} (E : eb_ini L xs s h) {i k : Nat} {v : Int32} (e : h1 = eb_sI h i k v) (hi : eb_ix i < s.1) : eb_ini L xs (es_sI s i k v) h1 := by
  subst e
  obtain ⟨⟨a1, a2⟩, a3, a4, a5, a6, a7, a8, a9⟩ := E
  refine ⟨⟨a1, a2⟩, fun c j => ?_, a4, a5, fun x hx => ?_, a7, a8, a9⟩
  · show _ = if c = i ∧ j = k then v else es_I s.2.2.1 c j
    by_cases z : c = i
    · subst z
      rw [eb_I_sI]
      by_cases z2 : j = k
      · rw [if_pos z2, if_pos ⟨rfl, z2⟩]
      · rw [if_neg z2, if_neg (fun u => z2 u.2)]
        exact a3 c j
    · rw [eb_I_sIn z, if_neg (fun u => z u.1)]
      exact a3 c j
  · rcases List.mem_cons.mp hx with hx | hx
    · rw [hx]; exact hi
    · exact a6 x hx
theorem eb_ini.sR {s : eb_S} {h h1 : eb_H} (E : eb_ini L xs s h) {i k : Nat} {v : Option Nat} (e : h1 = eb_sR h i k v) (hi : eb_ix i < s.1) : eb_ini L xs (es_sR s i k v) h1 := by
  subst e
  obtain ⟨⟨a1, a2⟩, a3, a4, a5, a6, a7, a8, a9⟩ := E
  refine ⟨⟨a1, a2⟩, a3, a4, fun c j => ?_, a6, fun x hx => ?_, a8, a9⟩
  · show _ = if c = i ∧ j = k then v else es_R s.2.2.2 c j
    by_cases z : c = i
    · subst z
      rw [eb_R_sR]
      by_cases z2 : j = k
      · rw [if_pos z2, if_pos ⟨rfl, z2⟩]
      · rw [if_neg z2, if_neg (fun u => z2 u.2)]
        exact a5 c j
    · rw [eb_R_sRn z, if_neg (fun u => z u.1)]
      exact a5 c j
  · rcases List.mem_cons.mp hx with hx | hx
    · rw [hx]; exact hi
    · exact a7 x hx
def es_State (s : eb_S) (a : Nat) : eb_S := (es_sR (es_nw (es_sI (es_sI (es_sI (es_sI (es_sI s a 0 0) a 1 0) a 2 0) a 3 0) a 4 0) 16) a 5 (some (eb_mk (s.1 + 0) 13 16)))
theorem I_State {d : Nat} {h : eb_H} {Q : Option Value → eb_H → Prop} {s : eb_S} {a : Nat} (E : eb_ini L xs s h) (ka : eb_kd a = 6) (ha : eb_ix a < s.1) (q : ∀ h', eb_ini L xs (es_State s a) h' → Q none h') : eb_Ct (d + 1) 59 [.ref a] h Q := by
  refine T_X6_init (d := d) a ka ?_
  intro h1 eh1
  have E1 := E.sI eh1 (Nat.lt_of_lt_of_le ha (Nat.le_add_right _ 0))
  intro h3 eh3
  have E3 := E1.sI eh3 (Nat.lt_of_lt_of_le ha (Nat.le_add_right _ 0))
  intro h5 eh5
  have E5 := E3.sI eh5 (Nat.lt_of_lt_of_le ha (Nat.le_add_right _ 0))
  intro h7 eh7
  have E7 := E5.sI eh7 (Nat.lt_of_lt_of_le ha (Nat.le_add_right _ 0))
  intro h9 eh9
  have E9 := E7.sI eh9 (Nat.lt_of_lt_of_le ha (Nat.le_add_right _ 0))
  intro r13 er13
  have er13 : r13 = eb_mk (s.1 + 0) 13 16 := E9.nx er13
  intro h11 eh11
  have E11 := E9.nw eh11 (by decide) (by decide)
  intro h15 eh15
  rw [er13] at eh15
  have E15 := E11.sR eh15 (Nat.lt_of_lt_of_le ha (Nat.le_add_right _ 1))
  exact q _ E15
def es_Valley (s : eb_S) (a : Nat) : eb_S := (es_sR (es_sR (es_sR (es_nw (es_sR (es_nw (es_sI (es_sI (es_sI (es_sI (es_sI s a 0 1) a 1 1) a 2 3) a 3 0) a 4 0) 4) a 5 (some (eb_mk (s.1 + 0) 13 4))) 16) a 6 (some (eb_mk (s.1 + 1) 13 16))) a 7 none) a 8 none)
theorem I_Valley {d : Nat} {h : eb_H} {Q : Option Value → eb_H → Prop} {s : eb_S} {a : Nat} (E : eb_ini L xs s h) (ka : eb_kd a = 9) (ha : eb_ix a < s.1) (q : ∀ h', eb_ini L xs (es_Valley s a) h' → Q none h') : eb_Ct (d + 1) 79 [.ref a] h Q := by
  refine T_X9_init (d := d) a ka ?_
  intro h1 eh1
  have E1 := E.sI eh1 (Nat.lt_of_lt_of_le ha (Nat.le_add_right _ 0))
  intro h3 eh3
  have E3 := E1.sI eh3 (Nat.lt_of_lt_of_le ha (Nat.le_add_right _ 0))
  intro h5 eh5
  have E5 := E3.sI eh5 (Nat.lt_of_lt_of_le ha (Nat.le_add_right _ 0))
  intro h7 eh7
  have E7 := E5.sI eh7 (Nat.lt_of_lt_of_le ha (Nat.le_add_right _ 0))
  intro h9 eh9
  have E9 := E7.sI eh9 (Nat.lt_of_lt_of_le ha (Nat.le_add_right _ 0))
  intro r13 er13
  have er13 : r13 = eb_mk (s.1 + 0) 13 4 := E9.nx er13
  intro h11 eh11
  have E11 := E9.nw eh11 (by decide) (by decide)
  intro h15 eh15
  rw [er13] at eh15
  have E15 := E11.sR eh15 (Nat.lt_of_lt_of_le ha (Nat.le_add_right _ 1))
  intro r19 er19
  have er19 : r19 = eb_mk (s.1 + 1) 13 16 := E15.nx er19
  intro h17 eh17
  have E17 := E15.nw eh17 (by decide) (by decide)
  intro h21 eh21
  rw [er19] at eh21
  have E21 := E17.sR eh21 (Nat.lt_of_lt_of_le ha (Nat.le_add_right _ 2))
  intro h23 eh23
  have E23 := E21.sR eh23 (Nat.lt_of_lt_of_le ha (Nat.le_add_right _ 2))
  intro h25 eh25
  have E25 := E23.sR eh25 (Nat.lt_of_lt_of_le ha (Nat.le_add_right _ 2))
  exact q _ E25
def es_Tape (s : eb_S) (a : Nat) : eb_S := (es_sI (es_sI (es_sI (es_sI (es_sI (es_sI (es_sI (es_sI (es_sR (es_nw s 900) a 0 (some (eb_mk (s.1 + 0) 12 900))) a 1 0) a 2 0) a 3 0) a 4 0) a 5 0) a 6 0) a 7 0) a 8 (-1))
theorem I_Tape {d : Nat} {h : eb_H} {Q : Option Value → eb_H → Prop} {s : eb_S} {a : Nat} (E : eb_ini L xs s h) (ka : eb_kd a = 7) (ha : eb_ix a < s.1) (q : ∀ h', eb_ini L xs (es_Tape s a) h' → Q none h') : eb_Ct (d + 1) 65 [.ref a] h Q := by
  refine T_X7_init (d := d) a ka ?_
  intro r3 er3
  have er3 : r3 = eb_mk (s.1 + 0) 12 900 := E.nx er3
  intro h1 eh1
  have E1 := E.nw eh1 (by decide) (by decide)
  intro h5 eh5
  rw [er3] at eh5
  have E5 := E1.sR eh5 (Nat.lt_of_lt_of_le ha (Nat.le_add_right _ 1))
  intro h7 eh7
  have E7 := E5.sI eh7 (Nat.lt_of_lt_of_le ha (Nat.le_add_right _ 1))
  intro h9 eh9
  have E9 := E7.sI eh9 (Nat.lt_of_lt_of_le ha (Nat.le_add_right _ 1))
  intro h11 eh11
  have E11 := E9.sI eh11 (Nat.lt_of_lt_of_le ha (Nat.le_add_right _ 1))
  intro h13 eh13
  have E13 := E11.sI eh13 (Nat.lt_of_lt_of_le ha (Nat.le_add_right _ 1))
  intro h15 eh15
  have E15 := E13.sI eh15 (Nat.lt_of_lt_of_le ha (Nat.le_add_right _ 1))
  intro h17 eh17
  have E17 := E15.sI eh17 (Nat.lt_of_lt_of_le ha (Nat.le_add_right _ 1))
  intro h19 eh19
  have E19 := E17.sI eh19 (Nat.lt_of_lt_of_le ha (Nat.le_add_right _ 1))
  intro h21 eh21
  have E21 := E19.sI eh21 (Nat.lt_of_lt_of_le ha (Nat.le_add_right _ 1))
  exact q _ E21
def es_Tray (s : eb_S) (a : Nat) : eb_S := (es_sI (es_sI (es_sI (es_sR (es_nw s 40) a 0 (some (eb_mk (s.1 + 0) 14 40))) a 1 0) a 2 1) a 3 0)
theorem I_Tray {d : Nat} {h : eb_H} {Q : Option Value → eb_H → Prop} {s : eb_S} {a : Nat} (E : eb_ini L xs s h) (ka : eb_kd a = 8) (ha : eb_ix a < s.1) (q : ∀ h', eb_ini L xs (es_Tray s a) h' → Q none h') : eb_Ct (d + 1) 74 [.ref a] h Q := by
  refine T_X8_init (d := d) a ka ?_
  intro r3 er3
  have er3 : r3 = eb_mk (s.1 + 0) 14 40 := E.nx er3
  intro h1 eh1
  have E1 := E.nw eh1 (by decide) (by decide)
  intro h5 eh5
  rw [er3] at eh5
  have E5 := E1.sR eh5 (Nat.lt_of_lt_of_le ha (Nat.le_add_right _ 1))
  intro h7 eh7
  have E7 := E5.sI eh7 (Nat.lt_of_lt_of_le ha (Nat.le_add_right _ 1))
  intro h9 eh9
  have E9 := E7.sI eh9 (Nat.lt_of_lt_of_le ha (Nat.le_add_right _ 1))
  intro h11 eh11
  have E11 := E9.sI eh11 (Nat.lt_of_lt_of_le ha (Nat.le_add_right _ 1))
  exact q _ E11
def es_Draws (s : eb_S) (a : Nat) : eb_S := (es_sI s a 0 0)
theorem I_Draws {d : Nat} {h : eb_H} {Q : Option Value → eb_H → Prop} {s : eb_S} {a : Nat} (E : eb_ini L xs s h) (ka : eb_kd a = 0) (ha : eb_ix a < s.1) (q : ∀ h', eb_ini L xs (es_Draws s a) h' → Q none h') : eb_Ct (d + 1) 0 [.ref a] h Q := by
  refine T_X0_init (d := d) a ka ?_
  intro h1 eh1
  have E1 := E.sI eh1 (Nat.lt_of_lt_of_le ha (Nat.le_add_right _ 0))
  exact q _ E1
def es_LawReader (s : eb_S) (a : Nat) : eb_S := (es_sI (es_sI (es_sI (es_sI (es_sI (es_sI (es_sI (es_sI (es_sR (es_nw (es_sR (es_nw (es_sR (es_Tape (es_nw s (eb_nf 7)) (eb_mk (s.1 + 0) 7 0)) a 0 (some (eb_mk (s.1 + 0) 7 0))) 900) a 1 (some (eb_mk (s.1 + 2) 13 900))) 32) a 2 (some (eb_mk (s.1 + 3) 13 32))) a 3 0) a 4 0) a 5 0) a 6 0) a 7 0) a 8 0) a 9 1) a 10 1)
theorem I_LawReader {d : Nat} {h : eb_H} {Q : Option Value → eb_H → Prop} {s : eb_S} {a : Nat} (E : eb_ini L xs s h) (ka : eb_kd a = 3) (ha : eb_ix a < s.1) (q : ∀ h', eb_ini L xs (es_LawReader s a) h' → Q none h') : eb_Ct (d + 2) 27 [.ref a] h Q := by
  refine T_X3_init (d := d + 1) a ka ?_
  intro r3 er3
  have er3 : r3 = eb_mk (s.1 + 0) 7 0 := E.nx er3
  intro h1 eh1
  have E1 := E.nw eh1 (by decide) (by decide)
  refine I_Tape E1 (by rw [er3]; exact eb_mk_kd (by decide)) (by rw [er3, eb_mk_ix (by decide) (by decide)]; exact Nat.lt_succ_self _) (fun h5 E5 => ⟨rfl, ?_⟩)
  rw [er3] at E5
  intro h8 eh8
  rw [er3] at eh8
  have E8 := E5.sR eh8 (Nat.lt_of_lt_of_le ha (Nat.le_add_right _ 2))
  intro r12 er12
  have er12 : r12 = eb_mk (s.1 + 2) 13 900 := E8.nx er12
  intro h10 eh10
  have E10 := E8.nw eh10 (by decide) (by decide)
  intro h14 eh14
  rw [er12] at eh14
  have E14 := E10.sR eh14 (Nat.lt_of_lt_of_le ha (Nat.le_add_right _ 3))
  intro r18 er18
  have er18 : r18 = eb_mk (s.1 + 3) 13 32 := E14.nx er18
  intro h16 eh16
  have E16 := E14.nw eh16 (by decide) (by decide)
  intro h20 eh20
  rw [er18] at eh20
  have E20 := E16.sR eh20 (Nat.lt_of_lt_of_le ha (Nat.le_add_right _ 4))
  intro h22 eh22
  have E22 := E20.sI eh22 (Nat.lt_of_lt_of_le ha (Nat.le_add_right _ 4))
  intro h24 eh24
  have E24 := E22.sI eh24 (Nat.lt_of_lt_of_le ha (Nat.le_add_right _ 4))
  intro h26 eh26
  have E26 := E24.sI eh26 (Nat.lt_of_lt_of_le ha (Nat.le_add_right _ 4))
  intro h28 eh28
  have E28 := E26.sI eh28 (Nat.lt_of_lt_of_le ha (Nat.le_add_right _ 4))
  intro h30 eh30
  have E30 := E28.sI eh30 (Nat.lt_of_lt_of_le ha (Nat.le_add_right _ 4))
  intro h32 eh32
  have E32 := E30.sI eh32 (Nat.lt_of_lt_of_le ha (Nat.le_add_right _ 4))
  intro h34 eh34
  have E34 := E32.sI eh34 (Nat.lt_of_lt_of_le ha (Nat.le_add_right _ 4))
  intro h36 eh36
  have E36 := E34.sI eh36 (Nat.lt_of_lt_of_le ha (Nat.le_add_right _ 4))
  exact q _ E36
def es_Flights (s : eb_S) (a : Nat) : eb_S := (es_sR (es_nw (es_sR (es_nw (es_sR (es_nw (es_sR (es_nw (es_sR (es_nw (es_sR (es_nw (es_sI (es_sI (es_sI (es_sI (es_sR (es_State (es_nw (es_sR (es_Valley (es_nw s (eb_nf 9)) (eb_mk (s.1 + 0) 9 0)) a 0 (some (eb_mk (s.1 + 0) 9 0))) (eb_nf 6)) (eb_mk (s.1 + 3) 6 0)) a 1 (some (eb_mk (s.1 + 3) 6 0))) a 2 0) a 3 0) a 4 0) a 5 0) 448) a 6 (some (eb_mk (s.1 + 5) 12 448))) 1024) a 7 (some (eb_mk (s.1 + 6) 13 1024))) 1024) a 8 (some (eb_mk (s.1 + 7) 13 1024))) 1024) a 9 (some (eb_mk (s.1 + 8) 12 1024))) 1024) a 10 (some (eb_mk (s.1 + 9) 14 1024))) 1024) a 11 (some (eb_mk (s.1 + 10) 14 1024)))
theorem I_Flights {d : Nat} {h : eb_H} {Q : Option Value → eb_H → Prop} {s : eb_S} {a : Nat} (E : eb_ini L xs s h) (ka : eb_kd a = 1) (ha : eb_ix a < s.1) (q : ∀ h', eb_ini L xs (es_Flights s a) h' → Q none h') : eb_Ct (d + 2) 3 [.ref a] h Q := by
  refine T_X1_init (d := d + 1) a ka ?_
  intro r3 er3
  have er3 : r3 = eb_mk (s.1 + 0) 9 0 := E.nx er3
  intro h1 eh1
  have E1 := E.nw eh1 (by decide) (by decide)
  refine I_Valley E1 (by rw [er3]; exact eb_mk_kd (by decide)) (by rw [er3, eb_mk_ix (by decide) (by decide)]; exact Nat.lt_succ_self _) (fun h5 E5 => ⟨rfl, ?_⟩)
  rw [er3] at E5
  intro h8 eh8
  rw [er3] at eh8
  have E8 := E5.sR eh8 (Nat.lt_of_lt_of_le ha (Nat.le_add_right _ 3))
  intro r12 er12
  have er12 : r12 = eb_mk (s.1 + 3) 6 0 := E8.nx er12
  intro h10 eh10
  have E10 := E8.nw eh10 (by decide) (by decide)
  refine I_State E10 (by rw [er12]; exact eb_mk_kd (by decide)) (by rw [er12, eb_mk_ix (by decide) (by decide)]; exact Nat.lt_succ_self _) (fun h14 E14 => ⟨rfl, ?_⟩)
  rw [er12] at E14
  intro h17 eh17
  rw [er12] at eh17
  have E17 := E14.sR eh17 (Nat.lt_of_lt_of_le ha (Nat.le_add_right _ 5))
  intro h19 eh19
  have E19 := E17.sI eh19 (Nat.lt_of_lt_of_le ha (Nat.le_add_right _ 5))
  intro h21 eh21
  have E21 := E19.sI eh21 (Nat.lt_of_lt_of_le ha (Nat.le_add_right _ 5))
  intro h23 eh23
  have E23 := E21.sI eh23 (Nat.lt_of_lt_of_le ha (Nat.le_add_right _ 5))
  intro h25 eh25
  have E25 := E23.sI eh25 (Nat.lt_of_lt_of_le ha (Nat.le_add_right _ 5))
  intro r29 er29
  have er29 : r29 = eb_mk (s.1 + 5) 12 448 := E25.nx er29
  intro h27 eh27
  have E27 := E25.nw eh27 (by decide) (by decide)
  intro h31 eh31
  rw [er29] at eh31
  have E31 := E27.sR eh31 (Nat.lt_of_lt_of_le ha (Nat.le_add_right _ 6))
  intro r35 er35
  have er35 : r35 = eb_mk (s.1 + 6) 13 1024 := E31.nx er35
  intro h33 eh33
  have E33 := E31.nw eh33 (by decide) (by decide)
  intro h37 eh37
  rw [er35] at eh37
  have E37 := E33.sR eh37 (Nat.lt_of_lt_of_le ha (Nat.le_add_right _ 7))
  intro r41 er41
  have er41 : r41 = eb_mk (s.1 + 7) 13 1024 := E37.nx er41
  intro h39 eh39
  have E39 := E37.nw eh39 (by decide) (by decide)
  intro h43 eh43
  rw [er41] at eh43
  have E43 := E39.sR eh43 (Nat.lt_of_lt_of_le ha (Nat.le_add_right _ 8))
  intro r47 er47
  have er47 : r47 = eb_mk (s.1 + 8) 12 1024 := E43.nx er47
  intro h45 eh45
  have E45 := E43.nw eh45 (by decide) (by decide)
  intro h49 eh49
  rw [er47] at eh49
  have E49 := E45.sR eh49 (Nat.lt_of_lt_of_le ha (Nat.le_add_right _ 9))
  intro r53 er53
  have er53 : r53 = eb_mk (s.1 + 9) 14 1024 := E49.nx er53
  intro h51 eh51
  have E51 := E49.nw eh51 (by decide) (by decide)
  intro h55 eh55
  rw [er53] at eh55
  have E55 := E51.sR eh55 (Nat.lt_of_lt_of_le ha (Nat.le_add_right _ 10))
  intro r59 er59
  have er59 : r59 = eb_mk (s.1 + 10) 14 1024 := E55.nx er59
  intro h57 eh57
  have E57 := E55.nw eh57 (by decide) (by decide)
  intro h61 eh61
  rw [er59] at eh61
  have E61 := E57.sR eh61 (Nat.lt_of_lt_of_le ha (Nat.le_add_right _ 11))
  exact q _ E61
end EBINIT
