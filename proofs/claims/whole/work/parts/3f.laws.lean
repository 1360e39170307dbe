section EBLAWS
/-! ===== a law's codes: what both reckon ===== -/
def ec_cl (v : Int64) : Int32 := (if v ≤ 1000000 then (if (-1000000) ≤ v then v else (-1000000)) else 1000000 : Int64).toInt32
def eb_opv (op a b : Int32) : Int32 := if op = 3003 then eb_q (a = b) else if op = 3004 then eb_q (¬ (b ≤ a)) else if op = 3005 then eb_q (¬ (a ≤ b)) else if op = 3007 then a &&& b else if op = 3008 then a ||| b else ec_cl (if op = (3000 : Int32) then a.toInt64 + b.toInt64 else (if op = (3001 : Int32) then a.toInt64 - b.toInt64 else a.toInt64 * b.toInt64) : Int64)
def eb_nv (wv : Nat → Int32) (c : Int32) : Int32 := if c.toInt < 1000 then c else wv (c.toInt.toNat - 1000)
theorem eb_rr {h : eb_H} {i : Nat} {f g : Nat → Int32} : eb_rI (eb_rI h i f) i g = eb_rI h i g := by
  unfold eb_rI
  simp only [bx_uu]
theorem eb_sr {h : eb_H} {i k : Nat} {f : Nat → Int32} {v : Int32} : eb_sI (eb_rI h i f) i k v = eb_rI h i (upd f k v) := by
  unfold eb_sI
  rw [eb_I_rI, eb_rr]
theorem C_between {d : Nat} {h : eb_H} {Q : Option Value → eb_H → Prop} (op a b : Int32) (ko : eb_KO h) (w : Q (some (.int (eb_opv op a b))) h) : eb_Ct d 197 [.int op, .int a, .int b] h Q := by
  unfold eb_opv at w
  refine T_X11_between op a b ko ⟨fun c => ?_, fun c => ?_, fun c => ?_, fun c => ?_, fun c => ?_, fun c1 c2 c3 c4 c5 => ?_⟩
  · rw [if_pos c] at w; exact w
  · rw [c, if_neg (by decide), if_pos rfl] at w; exact w
  · rw [c, if_neg (by decide), if_neg (by decide), if_pos rfl] at w; exact w
  · rw [c, if_neg (by decide), if_neg (by decide), if_neg (by decide), if_pos rfl] at w; exact w
  · rw [c, if_neg (by decide), if_neg (by decide), if_neg (by decide), if_neg (by decide), if_pos rfl] at w; exact w
  · rw [if_neg c1, if_neg c2, if_neg c3, if_neg c4, if_neg c5] at w; exact w
theorem ec_cl_a {v : Int64} (c : v ≤ 1000000) : ec_cl v = (if (-1000000) ≤ v then v.toInt32 else (-1000000) : Int32) := by
  unfold ec_cl
  rw [if_pos c]
  split
  · rfl
  · rfl
theorem ec_cl_b {v : Int64} (c : ¬ v ≤ 1000000) : ec_cl v = 1000000 := by
  unfold ec_cl
  rw [if_neg c]
  rfl
def eb_bop (op : Int32) : Prop := op = 3000 ∨ op = 3001 ∨ op = 3002 ∨ op = 3003 ∨ op = 3004 ∨ op = 3005 ∨ op = 3007 ∨ op = 3008
theorem C_weighB {d : Nat} {h : eb_H} {Q : Option Value → eb_H → Prop} (a0 : Nat) (op a b : Int32) (hop : eb_bop op) (ka : eb_kd a0 = 2) (ko : eb_KO h) (w : Q (some (.int (eb_opv op a b))) h) : eb_Ct d 26 [.ref a0, .int (eb_tc op), .int a, .int b] h Q := by
  have key : ∀ c : Int32, c = eb_tc op → eb_Ct d 26 [.ref a0, .int c, .int a, .int b] h Q := by
    intro c hc
    refine T_X2_weigh a0 c a b ka ko ⟨fun e => ?_, fun e => ?_, fun e => ?_, fun e => ?_, fun e => ?_, fun e => ?_, fun e => ?_, fun e => ?_, fun e => ?_, fun e1 e2 e3 e4 e5 e6 e7 e8 e9 => ?_⟩
    · rw [hc] at e
      rcases hop with rfl | rfl | rfl | rfl | rfl | rfl | rfl | rfl
      all_goals first | exact absurd e (by decide) | exact w
    · rw [hc] at e
      rcases hop with rfl | rfl | rfl | rfl | rfl | rfl | rfl | rfl
      all_goals first | exact absurd e (by decide) | exact w
    · rw [hc] at e
      rcases hop with rfl | rfl | rfl | rfl | rfl | rfl | rfl | rfl
      all_goals first | exact absurd e (by decide) | exact w
    · rw [hc] at e
      rcases hop with rfl | rfl | rfl | rfl | rfl | rfl | rfl | rfl
      all_goals first | exact absurd e (by decide) | exact w
    · rw [hc] at e
      rcases hop with rfl | rfl | rfl | rfl | rfl | rfl | rfl | rfl
      all_goals first | exact absurd e (by decide) | exact w
    · rw [hc] at e
      rcases hop with rfl | rfl | rfl | rfl | rfl | rfl | rfl | rfl
      all_goals first | exact absurd e (by decide) | exact w
    · rw [hc] at e
      rcases hop with rfl | rfl | rfl | rfl | rfl | rfl | rfl | rfl
      all_goals first | exact absurd e (by decide) | skip
      have w' : Q (some (.int (ec_cl (a.toInt64 + b.toInt64)))) h := w
      exact ⟨fun z => by rw [ec_cl_a z] at w'; exact w', fun z => by rw [ec_cl_b z] at w'; exact w'⟩
    · rw [hc] at e
      rcases hop with rfl | rfl | rfl | rfl | rfl | rfl | rfl | rfl
      all_goals first | exact absurd e (by decide) | skip
      have w' : Q (some (.int (ec_cl (a.toInt64 - b.toInt64)))) h := w
      exact ⟨fun z => by rw [ec_cl_a z] at w'; exact w', fun z => by rw [ec_cl_b z] at w'; exact w'⟩
    · rw [hc] at e
      rcases hop with rfl | rfl | rfl | rfl | rfl | rfl | rfl | rfl
      all_goals first | exact absurd e (by decide) | skip
      have w' : Q (some (.int (ec_cl (a.toInt64 * b.toInt64)))) h := w
      exact ⟨fun z => by rw [ec_cl_a z] at w'; exact w', fun z => by rw [ec_cl_b z] at w'; exact w'⟩
    · exfalso
      rw [hc] at e1 e2 e3 e4 e5 e6 e7 e8 e9
      rcases hop with rfl | rfl | rfl | rfl | rfl | rfl | rfl | rfl
      · exact e7 (by decide)
      · exact e8 (by decide)
      · exact e9 (by decide)
      · exact e4 (by decide)
      · exact e5 (by decide)
      · exact e6 (by decide)
      · exact e2 (by decide)
      · exact e1 (by decide)
  exact key _ rfl
theorem eb_big {c k : Int32} {n : Int} (hk : k.toInt = n) (h : c.toInt < n) : ¬ c = k := fun e => by rw [e, hk] at h; omega
theorem eb_nI1000 {c : Int32} (h0 : 0 ≤ c.toInt) (h1 : c.toInt ≤ 1005) : (c - 1000).toInt = c.toInt - 1000 := by
  have e := eb_ofn h0
  have hn : c.toInt.toNat ≤ 1005 := by omega
  rw [e]
  have q : nI c.toInt.toNat - 1000 = nI c.toInt.toNat - nI 1000 := rfl
  rw [q, pk_sub_toInt (by omega) (by omega), nI_toInt (by omega)]
  rfl
theorem C_weighN {d : Nat} {h : eb_H} {Q : Option Value → eb_H → Prop} (a0 nm : Nat) (c : Int32) (wv : Nat → Int32) (h0 : 0 ≤ c.toInt) (h1 : c.toInt ≤ 1005) (ka : eb_kd a0 = 2) (rn : eb_R h a0 2 = some nm) (kn : eb_kd nm = 19) (ln : eb_ln nm = 6) (hw : ∀ j, j < 6 → eb_I h nm j = wv j) (ko : eb_KO h) (w : Q (some (.int (eb_nv wv c))) h) : eb_Ct d 26 [.ref a0, .int c, .int 0, .int 0] h Q := by
  have e3 := eb_nI1000 h0 h1
  refine T_X2_weigh a0 c 0 0 ka ko ⟨fun e => absurd e (eb_big (n := 1020) rfl (by omega)), fun e => absurd e (eb_big (n := 1030) rfl (by omega)), fun e => absurd e (eb_big (n := 1040) rfl (by omega)), fun e => absurd e (eb_big (n := 1050) rfl (by omega)), fun e => absurd e (eb_big (n := 1051) rfl (by omega)), fun e => absurd e (eb_big (n := 1052) rfl (by omega)), fun e => absurd e (eb_big (n := 1060) rfl (by omega)), fun e => absurd e (eb_big (n := 1061) rfl (by omega)), fun e => absurd e (eb_big (n := 1070) rfl (by omega)), fun _ _ _ _ _ _ _ _ _ => ⟨fun z => ?_, fun z => ⟨nm, rn, kn, fun y => ?_, fun y => ⟨?_, ?_⟩⟩⟩⟩
  · rw [eb_i32, eb_z32, e3] at z
    unfold eb_nv at w
    rw [if_pos (by omega)] at w
    exact w
  · exfalso
    rw [ln, eb_i32e, e3, show (Int32.ofNat 6).toInt = 6 by decide] at y
    omega
  · rw [eb_i32, eb_z32, e3] at z
    rw [ln, vp_in_iff, e3]
    omega
  · rw [eb_i32, eb_z32, e3] at z
    unfold eb_nv at w
    rw [if_neg (by omega)] at w
    rw [hw _ (by rw [eb_tnc, e3]; omega), eb_tnc, e3, show (c.toInt - 1000).toNat = c.toInt.toNat - 1000 by omega]
    exact w
/-- a law of the class as it stands -/
def eb_XL1 (h : eb_H) (a0 r1 st nm : Nat) (wv : Nat → Int32) : Prop := eb_kd a0 = 2 ∧ eb_KO h ∧ (eb_R h a0 0 = some r1 ∧ eb_kd r1 = 13) ∧ (eb_R h a0 1 = some st ∧ eb_kd st = 19 ∧ eb_ln st = 32) ∧ (eb_R h a0 2 = some nm ∧ eb_kd nm = 19 ∧ eb_ln nm = 6) ∧ ∀ j, j < 6 → eb_I h nm j = wv j
theorem eb_XL1.rI {h : eb_H} {a0 r1 st nm : Nat} {wv : Nat → Int32} (p : eb_XL1 h a0 r1 st nm wv) (f : Nat → Int32) : eb_XL1 (eb_rI h st f) a0 r1 st nm wv := by
  obtain ⟨p1, p2, p3, p4, p5, p6⟩ := p
  refine ⟨p1, p2, p3, p4, p5, fun j hj => ?_⟩
  rw [eb_I_rIn (fun e => by rw [e, p4.2.2] at p5; exact absurd p5.2.2 (by decide))]
  exact p6 j hj
theorem eb_XL1.ne {h : eb_H} {a0 r1 st nm : Nat} {wv : Nat → Int32} (p : eb_XL1 h a0 r1 st nm wv) : r1 ≠ st := fun e => by
  obtain ⟨p1, p2, p3, p4, p5, p6⟩ := p
  rw [e, p4.2.1] at p3
  exact absurd p3.2 (by decide)
theorem eb_cln {n : Nat} (h : n < 2 ^ 31) : (nI n).toNatClampNeg = n := nI_clamp h
theorem X_num {d : Nat} {h0 h : eb_H} {Q : Option Value → eb_H → Prop} {a0 r1 st nm : Nat} {wv : Nat → Int32} (p : eb_XL1 h a0 r1 st nm wv) (i t : Nat) (c : Int32) (hl : eb_ln r1 < 2 ^ 31) (hi : i < eb_ln r1) (ht : t < 32) (hc : eb_I h r1 i = c) (c0 : 0 ≤ c.toInt) (c1 : c.toInt ≤ 1005) (w : eb_Sn (d + 1) m_X2_holds h0 51 [(0, .ref a0), (7, .int (nI (t + 1))), (8, .int (nI (i + 1)))] [] (eb_sI h st t (eb_nv wv c)) Q) : eb_Sn (d + 1) m_X2_holds h0 51 [(0, .ref a0), (7, .int (nI t)), (8, .int (nI i))] [] h Q := by
  obtain ⟨p1, ko, p3, p4, p5, p6⟩ := p
  have ei : (nI i).toNatClampNeg = i := eb_cln (by omega)
  have j0 : (if (1005 : Int32) < c then (if c = (1040 : Int32) then 1 else 2) else 0 : Int32) = 0 := if_neg (by rw [eb_i32, show (1005 : Int32).toInt = 1005 by decide]; omega)
  have s0 : nI t - 0 = nI t := Int32.sub_zero _
  refine b_X2_holds_51 a0 (nI t) (nI i) p1 ko ⟨r1, p3.1, p3.2, fun z => ?_, fun _ => ⟨vp_in_nI hi hl, ?_⟩⟩
  · exfalso
    have z : nI (eb_ln r1) ≤ nI i := z
    rw [nI_leI hl (by omega)] at z
    omega
  · rw [ei, hc, j0, s0]
    refine ⟨fun z => absurd z (nI_pos (by omega)), fun _ => ⟨st, p4.1, p4.2.1, fun _ => ⟨fun z => absurd rfl z, fun _ => ⟨fun _ => ?_, fun z => absurd z (by decide)⟩⟩, fun z => ?_⟩⟩
    · refine C_weighN a0 nm c wv c0 c1 p1 p5.1 p5.2.1 p5.2.2 p6 ko ⟨_, rfl, ko, ?_, ?_⟩
      · rw [p4.2.2]; exact vp_in_nI ht (by omega)
      · rw [nI_1, nI_1, eb_cln (by omega)]; exact w
    · exfalso
      apply z
      rw [p4.2.2]
      exact nI_lt ht (by omega)
theorem X_not {d : Nat} {h0 h : eb_H} {Q : Option Value → eb_H → Prop} {a0 r1 st nm : Nat} {wv : Nat → Int32} (p : eb_XL1 h a0 r1 st nm wv) (i t : Nat) (hl : eb_ln r1 < 2 ^ 31) (hi : i < eb_ln r1) (ht : t < 32) (hc : eb_I h r1 i = 1040) (w : eb_Sn (d + 1) m_X2_holds h0 51 [(0, .ref a0), (7, .int (nI (t + 1))), (8, .int (nI (i + 1)))] [] (eb_sI h st t (eb_q (eb_I h st t = 0))) Q) : eb_Sn (d + 1) m_X2_holds h0 51 [(0, .ref a0), (7, .int (nI (t + 1))), (8, .int (nI i))] [] h Q := by
  obtain ⟨p1, ko, p3, p4, p5, p6⟩ := p
  have ei : (nI i).toNatClampNeg = i := eb_cln (by omega)
  have j0 : (if (1005 : Int32) < (1040 : Int32) then (if (1040 : Int32) = (1040 : Int32) then 1 else 2) else 0 : Int32) = 1 := by decide
  have s0 : nI (t + 1) - 1 = nI t := nI_pred t
  refine b_X2_holds_51 a0 (nI (t + 1)) (nI i) p1 ko ⟨r1, p3.1, p3.2, fun z => ?_, fun _ => ⟨vp_in_nI hi hl, ?_⟩⟩
  · exfalso
    have z : nI (eb_ln r1) ≤ nI i := z
    rw [nI_leI hl (by omega)] at z
    omega
  · rw [ei, hc, j0, s0]
    have v1 : vp_in (nI t) (eb_ln st) := by rw [p4.2.2]; exact vp_in_nI ht (by omega)
    refine ⟨fun z => ?_, fun _ => ⟨st, p4.1, p4.2.1, fun _ => ⟨fun _ => ⟨v1, fun _ => ?_, fun z => absurd z (by decide)⟩, fun z => absurd z (by decide)⟩, fun z => ?_⟩⟩
    · exfalso
      have z : nI (t + 1) < nI 1 := z
      rw [nI_ltI (by omega) (by omega)] at z
      omega
    · refine T_X2_weigh a0 1040 0 _ p1 ko ⟨fun e => absurd e (by decide), fun e => absurd e (by decide), fun e => ?_, fun e => absurd e (by decide), fun e => absurd e (by decide), fun e => absurd e (by decide), fun e => absurd e (by decide), fun e => absurd e (by decide), fun e => absurd e (by decide), fun _ _ z _ _ _ _ _ _ => absurd rfl z⟩
      refine ⟨_, rfl, ko, v1, ?_⟩
      rw [nI_1, nI_1, eb_cln (by omega)]
      exact w
    · exfalso
      apply z
      rw [p4.2.2]
      exact nI_lt ht (by omega)
theorem X_bin {d : Nat} {h0 h : eb_H} {Q : Option Value → eb_H → Prop} {a0 r1 st nm : Nat} {wv : Nat → Int32} (p : eb_XL1 h a0 r1 st nm wv) (i t : Nat) (op : Int32) (hop : eb_bop op) (hl : eb_ln r1 < 2 ^ 31) (hi : i < eb_ln r1) (ht : t + 1 < 32) (hc : eb_I h r1 i = eb_tc op) (w : eb_Sn (d + 1) m_X2_holds h0 51 [(0, .ref a0), (7, .int (nI (t + 1))), (8, .int (nI (i + 1)))] [] (eb_sI h st t (eb_opv op (eb_I h st t) (eb_I h st (t + 1)))) Q) : eb_Sn (d + 1) m_X2_holds h0 51 [(0, .ref a0), (7, .int (nI (t + 2))), (8, .int (nI i))] [] h Q := by
  obtain ⟨p1, ko, p3, p4, p5, p6⟩ := p
  have ei : (nI i).toNatClampNeg = i := eb_cln (by omega)
  have j0 : (if (1005 : Int32) < eb_tc op then (if eb_tc op = (1040 : Int32) then 1 else 2) else 0 : Int32) = 2 := by
    rcases hop with rfl | rfl | rfl | rfl | rfl | rfl | rfl | rfl <;> decide
  have s0 : nI (t + 2) - 1 = nI (t + 1) := nI_pred (t + 1)
  have s1 : nI (t + 2) - 2 = nI t := pk_sub (a := t + 2) (b := 2) (by omega)
  refine b_X2_holds_51 a0 (nI (t + 2)) (nI i) p1 ko ⟨r1, p3.1, p3.2, fun z => ?_, fun _ => ⟨vp_in_nI hi hl, ?_⟩⟩
  · exfalso
    have z : nI (eb_ln r1) ≤ nI i := z
    rw [nI_leI hl (by omega)] at z
    omega
  · rw [ei, hc, j0, s0, s1]
    have v1 : vp_in (nI t) (eb_ln st) := by rw [p4.2.2]; exact vp_in_nI (by omega) (by omega)
    have v2 : vp_in (nI (t + 1)) (eb_ln st) := by rw [p4.2.2]; exact vp_in_nI ht (by omega)
    refine ⟨fun z => ?_, fun _ => ⟨st, p4.1, p4.2.1, fun _ => ⟨fun _ => ⟨v2, fun z => absurd rfl z, fun _ => ⟨v1, ?_⟩⟩, fun z => absurd z (by decide)⟩, fun z => ?_⟩⟩
    · exfalso
      have z : nI (t + 2) < nI 2 := z
      rw [nI_ltI (by omega) (by omega)] at z
      omega
    · refine C_weighB a0 op _ _ hop p1 ko ⟨_, rfl, ko, v1, ?_⟩
      rw [nI_1, nI_1, eb_cln (by omega), eb_cln (by omega)]
      exact w
    · exfalso
      apply z
      rw [p4.2.2]
      exact nI_lt (by omega) (by omega)
end EBLAWS
