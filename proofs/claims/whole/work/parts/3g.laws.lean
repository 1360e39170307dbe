section EBLAWS2
/-! the reference's half -/
def eb_ML1 (h : eb_H) (law f len : Nat) (wv : Nat → Int32) : Prop := law < 2 ∧ eb_KO h ∧ eb_I h s_m_all (9 + law) = nI len ∧ eb_I h s_m_all (7 + law) = nI f ∧ f + len ≤ 900 ∧ ∀ j, j < 6 → eb_I h s_m_words j = wv j
theorem eb_ML1.rI {h : eb_H} {law f len : Nat} {wv : Nat → Int32} (p : eb_ML1 h law f len wv) (g : Nat → Int32) : eb_ML1 (eb_rI h s_m_reckoned g) law f len wv := by
  obtain ⟨p1, p2, p3, p4, p5, p6⟩ := p
  refine ⟨p1, p2, ?_, ?_, p5, ?_⟩
  · rw [eb_I_rIn (by decide)]; exact p3
  · rw [eb_I_rIn (by decide)]; exact p4
  · rw [eb_I_rIn (by decide)]; exact p6
theorem ec_9 (a b : Nat) : (Int32.ofNat a) + nI b = nI (a + b) := nI_add a b
theorem M_pre {d : Nat} {h0 h : eb_H} {Q : Option Value → eb_H → Prop} {law f len : Nat} {wv : Nat → Int32} (p : eb_ML1 h law f len wv) (i : Nat) (x4 : Int32) (hi : i < len) (c : Int32) (hc : eb_I h s_m_all (264 + f + i) = c)
    (w : ((3000 : Int32) ≤ c → (¬ c = (3006 : Int32) → (vp_in ((x4 + (-1)) - 1) 900) ∧ (vp_in (x4 + (-1)) 900) ∧ eb_Ct d 197 [.int c, .int (eb_I h s_m_reckoned ((x4 + (-1)) - 1).toNatClampNeg), .int (eb_I h s_m_reckoned (x4 + (-1)).toNatClampNeg)] h (fun r h12 => ∃ y13, r = some (.int y13) ∧ eb_KO h12 ∧ (vp_in ((x4 + (-1)) - 1) 900) ∧ eb_Sn (d + 1) m_X11_reckons h0 87 [(0, .ref s_MO), (1, .int (nI law)), (4, .int (x4 + (-1))), (5, .int (nI (i + 1)))] [] (eb_sI h12 s_m_reckoned ((x4 + (-1)) - 1).toNatClampNeg y13) Q)) ∧ (c = (3006 : Int32) → (vp_in (x4 - 1) 900) ∧ (vp_in (x4 - 1) 900) ∧ eb_Sn (d + 1) m_X11_reckons h0 87 [(0, .ref s_MO), (1, .int (nI law)), (4, .int x4), (5, .int (nI (i + 1)))] [] (eb_sI h s_m_reckoned (x4 - 1).toNatClampNeg ((1 : Int32) - (eb_I h s_m_reckoned (x4 - 1).toNatClampNeg))) Q))
      ∧ (¬ ((3000 : Int32) ≤ c) → ((1000 : Int32) ≤ c → (vp_in (c - 1000) 6) ∧ (vp_in x4 900) ∧ eb_Sn (d + 1) m_X11_reckons h0 87 [(0, .ref s_MO), (1, .int (nI law)), (4, .int (x4 + 1)), (5, .int (nI (i + 1)))] [] (eb_sI h s_m_reckoned x4.toNatClampNeg (eb_I h s_m_words (c - 1000).toNatClampNeg)) Q) ∧ (¬ ((1000 : Int32) ≤ c) → (vp_in x4 900) ∧ eb_Sn (d + 1) m_X11_reckons h0 87 [(0, .ref s_MO), (1, .int (nI law)), (4, .int (x4 + 1)), (5, .int (nI (i + 1)))] [] (eb_sI h s_m_reckoned x4.toNatClampNeg c) Q))) :
    eb_Sn (d + 1) m_X11_reckons h0 87 [(0, .ref s_MO), (1, .int (nI law)), (4, .int x4), (5, .int (nI i))] [] h Q := by
  obtain ⟨p1, ko, p3, p4, p5, p6⟩ := p
  have e9 : ((9 : Int32) + nI law) = nI (9 + law) := ec_9 9 law
  have e7 : ((7 : Int32) + nI law) = nI (7 + law) := ec_9 7 law
  have t9 : (nI (9 + law)).toNatClampNeg = 9 + law := eb_cln (by omega)
  have t7 : (nI (7 + law)).toNatClampNeg = 7 + law := eb_cln (by omega)
  have e264 : ((264 : Int32) + nI f) = nI (264 + f) := ec_9 264 f
  have ti : (nI (264 + f + i)).toNatClampNeg = 264 + f + i := eb_cln (by omega)
  refine b_X11_reckons_87 (nI law) x4 (nI i) ko ?_
  rw [e9, e7, t9, t7, p3, p4, e264, nI_add (264 + f) i, ti, hc, nI_1]
  refine ⟨vp_in_nI (by omega) (by omega), fun z => ?_, fun _ => ⟨vp_in_nI (by omega) (by omega), vp_in_nI (by omega) (by omega), w⟩⟩
  exfalso
  rw [nI_leI (by omega) (by omega)] at z
  omega
theorem M_num {d : Nat} {h0 h : eb_H} {Q : Option Value → eb_H → Prop} {law f len : Nat} {wv : Nat → Int32} (p : eb_ML1 h law f len wv) (i t : Nat) (c : Int32) (hi : i < len) (ht : t < 900) (hc : eb_I h s_m_all (264 + f + i) = c) (c0 : 0 ≤ c.toInt) (c1 : c.toInt ≤ 1005) (w : eb_Sn (d + 1) m_X11_reckons h0 87 [(0, .ref s_MO), (1, .int (nI law)), (4, .int (nI (t + 1))), (5, .int (nI (i + 1)))] [] (eb_sI h s_m_reckoned t (eb_nv wv c)) Q) : eb_Sn (d + 1) m_X11_reckons h0 87 [(0, .ref s_MO), (1, .int (nI law)), (4, .int (nI t)), (5, .int (nI i))] [] h Q := by
  have e3 := eb_nI1000 c0 c1
  unfold eb_nv at w
  refine M_pre p i (nI t) hi c hc ⟨fun z => ?_, fun _ => ⟨fun z => ⟨?_, vp_in_nI ht (by omega), ?_⟩, fun z => ⟨vp_in_nI ht (by omega), ?_⟩⟩⟩
  · exfalso
    rw [eb_i32e, show (3000 : Int32).toInt = 3000 by decide] at z
    omega
  · rw [eb_i32e, show (1000 : Int32).toInt = 1000 by decide] at z
    rw [vp_in_iff, e3]
    omega
  · rw [eb_i32e, show (1000 : Int32).toInt = 1000 by decide] at z
    rw [if_neg (by omega)] at w
    rw [nI_1, eb_cln (by omega), eb_tnc, e3, show (c.toInt - 1000).toNat = c.toInt.toNat - 1000 by omega, p.2.2.2.2.2 _ (by omega)]
    exact w
  · rw [eb_i32e, show (1000 : Int32).toInt = 1000 by decide] at z
    rw [if_pos (by omega)] at w
    rw [nI_1, eb_cln (by omega)]
    exact w
theorem M_not {d : Nat} {h0 h : eb_H} {Q : Option Value → eb_H → Prop} {law f len : Nat} {wv : Nat → Int32} (p : eb_ML1 h law f len wv) (i t : Nat) (hi : i < len) (ht : t < 900) (hc : eb_I h s_m_all (264 + f + i) = 3006) (w : eb_Sn (d + 1) m_X11_reckons h0 87 [(0, .ref s_MO), (1, .int (nI law)), (4, .int (nI (t + 1))), (5, .int (nI (i + 1)))] [] (eb_sI h s_m_reckoned t (1 - eb_I h s_m_reckoned t)) Q) : eb_Sn (d + 1) m_X11_reckons h0 87 [(0, .ref s_MO), (1, .int (nI law)), (4, .int (nI (t + 1))), (5, .int (nI i))] [] h Q := by
  refine M_pre p i (nI (t + 1)) hi 3006 hc ⟨fun _ => ⟨fun z => absurd rfl z, fun _ => ?_⟩, fun z => absurd (by decide) z⟩
  rw [nI_pred, eb_cln (by omega)]
  exact ⟨vp_in_nI ht (by omega), vp_in_nI ht (by omega), w⟩
theorem M_bin {d : Nat} {h0 h : eb_H} {Q : Option Value → eb_H → Prop} {law f len : Nat} {wv : Nat → Int32} (p : eb_ML1 h law f len wv) (i t : Nat) (op : Int32) (hop : eb_bop op) (hi : i < len) (ht : t + 1 < 900) (hc : eb_I h s_m_all (264 + f + i) = op) (w : eb_Sn (d + 1) m_X11_reckons h0 87 [(0, .ref s_MO), (1, .int (nI law)), (4, .int (nI (t + 1))), (5, .int (nI (i + 1)))] [] (eb_sI h s_m_reckoned t (eb_opv op (eb_I h s_m_reckoned t) (eb_I h s_m_reckoned (t + 1)))) Q) : eb_Sn (d + 1) m_X11_reckons h0 87 [(0, .ref s_MO), (1, .int (nI law)), (4, .int (nI (t + 2))), (5, .int (nI i))] [] h Q := by
  have o1 : (3000 : Int32) ≤ op := by rcases hop with rfl | rfl | rfl | rfl | rfl | rfl | rfl | rfl <;> decide
  have o2 : ¬ op = (3006 : Int32) := by rcases hop with rfl | rfl | rfl | rfl | rfl | rfl | rfl | rfl <;> decide
  refine M_pre p i (nI (t + 2)) hi op hc ⟨fun _ => ⟨fun _ => ?_, fun z => absurd z o2⟩, fun z => absurd o1 z⟩
  have m1 : nI (t + 2) + (-1) = nI (t + 1) := pk_m1 (t + 1)
  rw [m1, nI_pred, eb_cln (show t < 2 ^ 31 by omega), eb_cln (show t + 1 < 2 ^ 31 by omega)]
  exact ⟨vp_in_nI (by omega) (by omega), vp_in_nI ht (by omega), C_between op _ _ p.2.1 ⟨_, rfl, p.2.1, vp_in_nI (by omega) (by omega), w⟩⟩
/-! pieces of a law -/
def eb_XSg (cs : List Int32) (n : Nat) (v : Int32) (wv : Nat → Int32) : Prop := ∀ (d : Nat) (h0 h : eb_H) (Q : Option Value → eb_H → Prop) (a0 r1 st nm i t : Nat), eb_XL1 h a0 r1 st nm wv → eb_ln r1 < 2 ^ 31 → i + cs.length ≤ eb_ln r1 → (∀ j, j < cs.length → eb_I h r1 (i + j) = eb_tc (cs.getD j 0)) → t + n ≤ 32 → (∀ f : Nat → Int32, f t = v → (∀ j, j < t → f j = eb_I h st j) → eb_Sn (d + 1) m_X2_holds h0 51 [(0, .ref a0), (7, .int (nI (t + 1))), (8, .int (nI (i + cs.length)))] [] (eb_rI h st f) Q) → eb_Sn (d + 1) m_X2_holds h0 51 [(0, .ref a0), (7, .int (nI t)), (8, .int (nI i))] [] h Q
def eb_MSg (cs : List Int32) (v : Int32) (wv : Nat → Int32) : Prop := ∀ (d : Nat) (h0 h : eb_H) (Q : Option Value → eb_H → Prop) (law f len i t : Nat), eb_ML1 h law f len wv → i + cs.length ≤ len → (∀ j, j < cs.length → eb_I h s_m_all (264 + f + i + j) = cs.getD j 0) → t ≤ i → (∀ g : Nat → Int32, g t = v → (∀ j, j < t → g j = eb_I h s_m_reckoned j) → eb_Sn (d + 1) m_X11_reckons h0 87 [(0, .ref s_MO), (1, .int (nI law)), (4, .int (nI (t + 1))), (5, .int (nI (i + cs.length)))] [] (eb_rI h s_m_reckoned g) Q) → eb_Sn (d + 1) m_X11_reckons h0 87 [(0, .ref s_MO), (1, .int (nI law)), (4, .int (nI t)), (5, .int (nI i))] [] h Q
def ec_st1 (wv : Nat → Int32) (c : Int32) (s : List Int32) : List Int32 := if c.toInt ≤ 1005 then eb_nv wv c :: s else if c = 3006 then (match s with | a :: r => (1 - a) :: r | [] => []) else (match s with | b :: a :: r => eb_opv c a b :: r | s => s)
def ec_run (wv : Nat → Int32) : List Int32 → List Int32 → List Int32
  | [], s => s
  | c :: cs, s => ec_run wv cs (ec_st1 wv c s)
theorem ec_run_app (wv : Nat → Int32) : ∀ (a b s : List Int32), ec_run wv (a ++ b) s = ec_run wv b (ec_run wv a s)
  | [], _, _ => rfl
  | c :: a, b, s => ec_run_app wv a b (ec_st1 wv c s)
def ec_seg (wv : Nat → Int32) (cs : List Int32) (n : Nat) (v : Int32) : Prop := 1 ≤ n ∧ 1 ≤ cs.length ∧ (∀ s, ec_run wv cs s = v :: s) ∧ eb_XSg cs n v wv ∧ eb_MSg cs v wv
theorem ec_gl {a b : List Int32} {j : Nat} (h : j < a.length) : (a ++ b).getD j 0 = a.getD j 0 := by
  rw [List.getD_eq_getElem?_getD, List.getD_eq_getElem?_getD, List.getElem?_append_left h]
theorem ec_gr {a b : List Int32} (j : Nat) : (a ++ b).getD (a.length + j) 0 = b.getD j 0 := by
  rw [List.getD_eq_getElem?_getD, List.getD_eq_getElem?_getD, List.getElem?_append_right (by omega), Nat.add_sub_cancel_left]
theorem ec_seg_num (wv : Nat → Int32) (c : Int32) (c0 : 0 ≤ c.toInt) (c1 : c.toInt ≤ 1005) : ec_seg wv [c] 1 (eb_nv wv c) := by
  have tc : eb_tc c = c := by
    unfold eb_tc
    rw [if_neg (eb_big (n := 3000) rfl (by omega)), if_neg (eb_big (n := 3001) rfl (by omega)), if_neg (eb_big (n := 3002) rfl (by omega)), if_neg (eb_big (n := 3003) rfl (by omega)), if_neg (eb_big (n := 3004) rfl (by omega)), if_neg (eb_big (n := 3005) rfl (by omega)), if_neg (eb_big (n := 3006) rfl (by omega)), if_neg (eb_big (n := 3007) rfl (by omega)), if_neg (eb_big (n := 3008) rfl (by omega))]
  refine ⟨Nat.le_refl _, Nat.le_refl _, fun s => ?_, ?_, ?_⟩
  · show ec_st1 wv c s = _
    unfold ec_st1
    rw [if_pos c1]
  · intro d h0 h Q a0 r1 st nm i t p hl hi hc ht w
    have hc := hc 0 (Nat.zero_lt_one)
    have hi : i + 1 ≤ eb_ln r1 := hi
    refine X_num p i t c hl (by omega) (by omega) (hc.trans tc) c0 c1 ?_
    have := w (upd (eb_I h st) t (eb_nv wv c)) (by simp [upd]) (fun j hj => by simp [upd, show j ≠ t by omega])
    exact this
  · intro d h0 h Q law f len i t p hi hc ht w
    have hc := hc 0 (Nat.zero_lt_one)
    have hi : i + 1 ≤ len := hi
    have hlen := p.2.2.2.2.1
    refine M_num p i t c (by omega) (by omega) hc c0 c1 ?_
    have := w (upd (eb_I h s_m_reckoned) t (eb_nv wv c)) (by simp [upd]) (fun j hj => by simp [upd, show j ≠ t by omega])
    exact this
theorem ec_seg_bin (wv : Nat → Int32) (op : Int32) (hop : eb_bop op) {a b : List Int32} {m n : Nat} {va vb : Int32} (A : ec_seg wv a m va) (B : ec_seg wv b n vb) : ec_seg wv (a ++ b ++ [op]) (max m (n + 1)) (eb_opv op va vb) := by
  obtain ⟨a1, a2, a3, a4, a5⟩ := A
  obtain ⟨b1, b2, b3, b4, b5⟩ := B
  have ll : (a ++ b ++ [op]).length = a.length + b.length + 1 := by simp; omega
  have o1 : ¬ op.toInt ≤ 1005 := by rcases hop with rfl | rfl | rfl | rfl | rfl | rfl | rfl | rfl <;> decide
  have o2 : ¬ op = (3006 : Int32) := by rcases hop with rfl | rfl | rfl | rfl | rfl | rfl | rfl | rfl <;> decide
  have ga : ∀ j, j < a.length → (a ++ b ++ [op]).getD j 0 = a.getD j 0 := fun j hj => by rw [List.append_assoc, ec_gl hj]
  have gb : ∀ j, j < b.length → (a ++ b ++ [op]).getD (a.length + j) 0 = b.getD j 0 := fun j hj => by rw [List.append_assoc, ec_gr, ec_gl hj]
  have go : (a ++ b ++ [op]).getD (a.length + b.length) 0 = op := by
    have := ec_gr (a := a ++ b) (b := [op]) 0
    rw [List.length_append] at this
    exact this
  refine ⟨by omega, by omega, fun s => ?_, ?_, ?_⟩
  · rw [ec_run_app, ec_run_app, a3, b3]
    show ec_st1 wv op (vb :: va :: s) = _
    unfold ec_st1
    rw [if_neg o1, if_neg o2]
  · intro d h0 h Q a0 r1 st nm i t p hl hi hc ht w
    rw [ll] at hi hc w
    refine a4 d h0 h Q a0 r1 st nm i t p hl (by omega) (fun j hj => ?_) (by omega) (fun f1 f1t f1l => ?_)
    · rw [hc j (by omega), ga j hj]
    · refine b4 d h0 _ Q a0 r1 st nm (i + a.length) (t + 1) (p.rI f1) hl (by omega) (fun j hj => ?_) (by omega) (fun f2 f2t f2l => ?_)
      · rw [eb_I_rIn p.ne, Nat.add_assoc, hc (a.length + j) (by omega), gb j hj]
      · rw [eb_rr]
        refine X_bin (p.rI f2) (i + a.length + b.length) t op hop hl (by omega) (by omega) ?_ ?_
        · rw [eb_I_rIn p.ne, show i + a.length + b.length = i + (a.length + b.length) by omega, hc (a.length + b.length) (by omega), go]
        · rw [eb_sr, eb_I_rI]
          have e1 : f2 t = va := by rw [f2l t (by omega), eb_I_rI, f1t]
          rw [e1, f2t]
          have := w (upd f2 t (eb_opv op va vb)) (by simp [upd]) (fun j hj => by
            rw [pk_un (by omega), f2l j (by omega), eb_I_rI, f1l j hj])
          rw [show i + (a.length + b.length + 1) = i + a.length + b.length + 1 by omega] at this
          exact this
  · intro d h0 h Q law f len i t p hi hc ht w
    rw [ll] at hi hc w
    have hlen := p.2.2.2.2.1
    refine a5 d h0 h Q law f len i t p (by omega) (fun j hj => ?_) ht (fun f1 f1t f1l => ?_)
    · rw [hc j (by omega), ga j hj]
    · refine b5 d h0 _ Q law f len (i + a.length) (t + 1) (p.rI f1) (by omega) (fun j hj => ?_) (by omega) (fun f2 f2t f2l => ?_)
      · rw [eb_I_rIn (by decide), show 264 + f + (i + a.length) + j = 264 + f + i + (a.length + j) by omega, hc (a.length + j) (by omega), gb j hj]
      · rw [eb_rr]
        refine M_bin (p.rI f2) (i + a.length + b.length) t op hop (by omega) (by omega) ?_ ?_
        · rw [eb_I_rIn (by decide), show 264 + f + (i + a.length + b.length) = 264 + f + i + (a.length + b.length) by omega, hc (a.length + b.length) (by omega), go]
        · rw [eb_sr, eb_I_rI]
          have e1 : f2 t = va := by rw [f2l t (by omega), eb_I_rI, f1t]
          rw [e1, f2t]
          have := w (upd f2 t (eb_opv op va vb)) (by simp [upd]) (fun j hj => by
            rw [pk_un (by omega), f2l j (by omega), eb_I_rI, f1l j hj])
          rw [show i + (a.length + b.length + 1) = i + a.length + b.length + 1 by omega] at this
          exact this
theorem ec_seg_not (wv : Nat → Int32) {a : List Int32} {m : Nat} {v : Int32} (hv : v = 0 ∨ v = 1) (A : ec_seg wv a m v) : ec_seg wv (a ++ [3006]) m (1 - v) := by
  obtain ⟨a1, a2, a3, a4, a5⟩ := A
  have ll : (a ++ [3006]).length = a.length + 1 := by simp
  have ga : ∀ j, j < a.length → (a ++ [3006]).getD j 0 = a.getD j 0 := fun j hj => ec_gl hj
  have go : (a ++ [3006]).getD (a.length) 0 = 3006 := ec_gr (a := a) (b := [3006]) 0
  refine ⟨a1, by omega, fun s => ?_, ?_, ?_⟩
  · rw [ec_run_app, a3]
    rfl
  · intro d h0 h Q a0 r1 st nm i t p hl hi hc ht w
    rw [ll] at hi hc w
    refine a4 d h0 h Q a0 r1 st nm i t p hl (by omega) (fun j hj => ?_) (by omega) (fun f1 f1t f1l => ?_)
    · rw [hc j (by omega), ga j hj]
    · refine X_not (p.rI f1) (i + a.length) t hl (by omega) (by omega) ?_ ?_
      · rw [eb_I_rIn p.ne, hc (a.length) (by omega), go]
        decide
      · rw [eb_sr, eb_I_rI, f1t]
        have e : eb_q (v = 0) = 1 - v := by rcases hv with rfl | rfl <;> decide
        rw [e]
        exact w (upd f1 t (1 - v)) (by simp [upd]) (fun j hj => by rw [pk_un (by omega), f1l j hj])
  · intro d h0 h Q law f len i t p hi hc ht w
    rw [ll] at hi hc w
    have hlen := p.2.2.2.2.1
    refine a5 d h0 h Q law f len i t p (by omega) (fun j hj => ?_) ht (fun f1 f1t f1l => ?_)
    · rw [hc j (by omega), ga j hj]
    · refine M_not (p.rI f1) (i + a.length) t (by omega) (by omega) ?_ ?_
      · rw [eb_I_rIn (by decide), show 264 + f + (i + a.length) = 264 + f + i + a.length by omega, hc (a.length) (by omega), go]
      · rw [eb_sr, eb_I_rI, f1t]
        exact w (upd f1 t (1 - v)) (by simp [upd]) (fun j hj => by rw [pk_un (by omega), f1l j hj])
theorem ec_isN (wv : Nat → Int32) {cs : List Int32} {n : Nat} (H : eb_isN cs n) : ∃ v, ec_seg wv cs n v := by
  refine H (fun cs n => ∃ v, ec_seg wv cs n v) (fun c c0 c1 => ⟨_, ec_seg_num wv c c0 c1⟩) ?_
  rintro op a m b n hop ⟨va, A⟩ ⟨vb, B⟩
  exact ⟨_, ec_seg_bin wv op (by unfold eb_bop; rcases hop with q | q | q <;> simp [q]) A B⟩
theorem ec_isT (wv : Nat → Int32) {cs : List Int32} {n : Nat} (H : eb_isT cs n) : ∃ v, (v = 0 ∨ v = 1) ∧ ec_seg wv cs n v := by
  refine H (fun cs n => ∃ v, (v = 0 ∨ v = 1) ∧ ec_seg wv cs n v) ?_ ?_ ?_
  · rintro op a m b n hop A B
    obtain ⟨va, A⟩ := ec_isN wv A
    obtain ⟨vb, B⟩ := ec_isN wv B
    refine ⟨_, ?_, ec_seg_bin wv op (by unfold eb_bop; rcases hop with q | q | q <;> simp [q]) A B⟩
    rcases hop with rfl | rfl | rfl
    · show eb_q _ = 0 ∨ eb_q _ = 1
      unfold eb_q; split <;> simp
    · show eb_q _ = 0 ∨ eb_q _ = 1
      unfold eb_q; split <;> simp
    · show eb_q _ = 0 ∨ eb_q _ = 1
      unfold eb_q; split <;> simp
  · rintro a m ⟨v, hv, A⟩
    refine ⟨_, ?_, ec_seg_not wv hv A⟩
    rcases hv with rfl | rfl <;> decide
  · rintro op a m b n hop ⟨va, hva, A⟩ ⟨vb, hvb, B⟩
    refine ⟨_, ?_, ec_seg_bin wv op (by unfold eb_bop; rcases hop with q | q <;> simp [q]) A B⟩
    rcases hop with rfl | rfl <;> rcases hva with rfl | rfl <;> rcases hvb with rfl | rfl <;> decide
end EBLAWS2
