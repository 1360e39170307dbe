section EBWORLD
variable {L : Nat} {xs : Nat → Int32}
/-! ===== the world that a draft tells ===== -/
theorem ee_rvg (l : List Nat) (j : Nat) (hj : j < l.length) : l.reverse.getD (l.reverse.length - 1 - j) 0 = l.getD j 0 := by
  have e : l.length - 1 - (l.length - 1 - j) = j := by omega
  rw [List.length_reverse, List.getD_eq_getElem?_getD, List.getD_eq_getElem?_getD, List.getElem?_reverse (by omega), e]
theorem ee_mpg {α : Type} (f : Nat → α) (l : List Nat) (j : Nat) (d : α) (hj : j < l.length) : (l.map f).getD j d = f (l.getD j 0) := by
  rw [List.getD_eq_getElem?_getD, List.getD_eq_getElem?_getD, List.getElem?_map, List.getElem?_eq_getElem hj]
  rfl
theorem ee_mem (l : List Nat) (j : Nat) (hj : j < l.length) : l.getD j 0 ∈ l := by
  rw [List.getD_eq_getElem?_getD, List.getElem?_eq_getElem hj]
  exact List.getElem_mem hj
theorem ee_glc (x : Nat) (l : List Nat) (j : Nat) (h : j < l.length) : (x :: l).getD (l.length - j) 0 = l.getD (l.length - 1 - j) 0 := by
  obtain ⟨m, e⟩ : ∃ m, l.length - j = m + 1 := ⟨l.length - j - 1, by omega⟩
  rw [e, show l.length - 1 - j = m by omega]
  rfl
theorem ee_ro_get {h : eb_H} {a : Nat} : ∀ (K : List Nat), ee_ro h a K → ∀ j, j < K.length → eb_I h a j = nI (K.getD (K.length - 1 - j) 0)
  | [], _, j, hj => absurd hj (Nat.not_lt_zero j)
  | x :: l, r, j, hj => by
    have hj : j < l.length + 1 := hj
    show eb_I h a j = nI ((x :: l).getD (l.length + 1 - 1 - j) 0)
    rw [Nat.add_sub_cancel]
    by_cases e : j = l.length
    · rw [e, Nat.sub_self]
      exact r.1
    · rw [ee_glc x l j (by omega)]
      exact ee_ro_get l r.2 j (by omega)
theorem ee_ro_rev {h : eb_H} {a : Nat} (l : List Nat) (r : ee_ro h a l.reverse) (j : Nat) (hj : j < l.length) : eb_I h a j = nI (l.getD j 0) := by
  rw [← ee_rvg l j hj]
  exact ee_ro_get l.reverse r j (by rw [List.length_reverse]; exact hj)
theorem ee_tct {c : Nat} (h : c < 4000) : eb_tc (nI c) = nI (ee_t1 c) := by
  have e0 : (nI c = (3000 : Int32)) ↔ c = 3000 := nI_eq (b := 3000) (by omega) (by decide)
  have e1 : (nI c = (3001 : Int32)) ↔ c = 3001 := nI_eq (b := 3001) (by omega) (by decide)
  have e2 : (nI c = (3002 : Int32)) ↔ c = 3002 := nI_eq (b := 3002) (by omega) (by decide)
  have e3 : (nI c = (3003 : Int32)) ↔ c = 3003 := nI_eq (b := 3003) (by omega) (by decide)
  have e4 : (nI c = (3004 : Int32)) ↔ c = 3004 := nI_eq (b := 3004) (by omega) (by decide)
  have e5 : (nI c = (3005 : Int32)) ↔ c = 3005 := nI_eq (b := 3005) (by omega) (by decide)
  have e6 : (nI c = (3006 : Int32)) ↔ c = 3006 := nI_eq (b := 3006) (by omega) (by decide)
  have e7 : (nI c = (3007 : Int32)) ↔ c = 3007 := nI_eq (b := 3007) (by omega) (by decide)
  have e8 : (nI c = (3008 : Int32)) ↔ c = 3008 := nI_eq (b := 3008) (by omega) (by decide)
  unfold eb_tc ee_t1
  by_cases z0 : c = 3000
  · rw [if_pos (e0.mpr z0), if_pos z0]; rfl
  rw [if_neg (fun u => z0 (e0.mp u)), if_neg z0]
  by_cases z1 : c = 3001
  · rw [if_pos (e1.mpr z1), if_pos z1]; rfl
  rw [if_neg (fun u => z1 (e1.mp u)), if_neg z1]
  by_cases z2 : c = 3002
  · rw [if_pos (e2.mpr z2), if_pos z2]; rfl
  rw [if_neg (fun u => z2 (e2.mp u)), if_neg z2]
  by_cases z3 : c = 3003
  · rw [if_pos (e3.mpr z3), if_pos z3]; rfl
  rw [if_neg (fun u => z3 (e3.mp u)), if_neg z3]
  by_cases z4 : c = 3004
  · rw [if_pos (e4.mpr z4), if_pos z4]; rfl
  rw [if_neg (fun u => z4 (e4.mp u)), if_neg z4]
  by_cases z5 : c = 3005
  · rw [if_pos (e5.mpr z5), if_pos z5]; rfl
  rw [if_neg (fun u => z5 (e5.mp u)), if_neg z5]
  by_cases z6 : c = 3006
  · rw [if_pos (e6.mpr z6), if_pos z6]; rfl
  rw [if_neg (fun u => z6 (e6.mp u)), if_neg z6]
  by_cases z7 : c = 3007
  · rw [if_pos (e7.mpr z7), if_pos z7]; rfl
  rw [if_neg (fun u => z7 (e7.mp u)), if_neg z7]
  by_cases z8 : c = 3008
  · rw [if_pos (e8.mpr z8), if_pos z8]; rfl
  rw [if_neg (fun u => z8 (e8.mp u)), if_neg z8]
def ee_wl (o : Option (List Nat)) : Option (List Int32) := match o with
  | none => none
  | some cs => some (cs.map nI)
def ee_wV (D : ee_D) (s : Nat) : eb_Va := (s, (fun k => if k = 0 then D.1 1 else if k = 1 then D.1 2 else if k = 2 then D.1 3 else D.1 0), (fun j => D.1 (27 + j)), (fun j => D.1 (11 + j)), ee_wl D.2.2.1, ee_wl D.2.2.2)
def ee_wS (D : ee_D) : eb_St := fun k => if k = 0 then D.1 31 else if k = 1 then D.1 32 else if k = 2 then D.1 33 else if k = 3 then D.1 50 else if k = 4 then D.1 51 else D.1 (29 + k)
theorem ee_ol.ok {o : Option (List Nat)} (l : ee_ol o) : eb_okL (ee_wl o) := by
  cases o with
  | none => intro cs e; cases e
  | some cs => exact (l cs rfl).1
theorem ee_wS_th {D : ee_D} {j : Nat} : eb_St.th (ee_wS D) j = D.1 (34 + j) := by
  show (if 5 + j = 0 then _ else if 5 + j = 1 then _ else if 5 + j = 2 then _ else if 5 + j = 3 then _ else if 5 + j = 4 then _ else D.1 (29 + (5 + j))) = _
  rw [if_neg (by omega), if_neg (by omega), if_neg (by omega), if_neg (by omega), if_neg (by omega), ← Nat.add_assoc]
theorem ee_wV_ok {D : ee_D} {a b c s : Nat} (dw : ee_DW D a b c s) (sd : ee_sd D a b) : eb_okV (ee_wV D s) := by
  obtain ⟨w1, w2, w3, w4⟩ := dw
  have r1 : (ee_wV D s).rows = nI a := w1.1
  have r2 : (ee_wV D s).cols = nI b := w2.1
  have r3 : (ee_wV D s).bears = nI c := w3.1
  have t1 := nI_toInt (n := a) (by omega)
  have t2 := nI_toInt (n := b) (by omega)
  have t3 := nI_toInt (n := c) (by omega)
  unfold eb_okV
  rw [r1, r2, r3, t1, t2, t3]
  refine ⟨by omega, by omega, by omega, w4.2, fun j hj => ?_, fun j hj => ?_, sd.2.1.ok, sd.2.2.ok⟩
  · have hj : j < s := hj
    have s4 := w4.2
    obtain ⟨x, x1, x2⟩ := sd.1 (27 + j) (by omega) (by omega)
    have eB : ee_B a b (27 + j) = a * b := by
      unfold ee_B
      rw [if_neg (by omega), if_pos (by omega)]
    rw [eB] at x1
    have h16 : a * b ≤ 16 := Nat.mul_le_mul w1.2.2 w2.2.2
    show 0 ≤ (D.1 (27 + j)).toInt ∧ (D.1 (27 + j)).toInt < (a : Int) * (b : Int)
    rw [x2, nI_toInt (by omega)]
    refine ⟨by omega, ?_⟩
    rw [← Int.natCast_mul]
    omega
  · obtain ⟨x, x1, x2⟩ := sd.1 (11 + j) (by omega) (by omega)
    have eB : ee_B a b (11 + j) = 10 := by
      unfold ee_B
      rw [if_pos (by omega)]
    rw [eB] at x1
    show 0 ≤ (D.1 (11 + j)).toInt ∧ (D.1 (11 + j)).toInt ≤ 999
    rw [x2, nI_toInt (by omega)]
    omega
theorem ee_wS_ok {D : ee_D} {a b c s : Nat} (dw : ee_DW D a b c s) (sd : ee_sd D a b) : eb_okS (ee_wV D s) (ee_wS D) := by
  obtain ⟨w1, w2, w3, w4⟩ := dw
  have r1 : (ee_wV D s).rows = nI a := w1.1
  have r2 : (ee_wV D s).cols = nI b := w2.1
  have t1 := nI_toInt (n := a) (by omega)
  have t2 := nI_toInt (n := b) (by omega)
  have h16 : a * b ≤ 16 := Nat.mul_le_mul w1.2.2 w2.2.2
  unfold eb_okS
  rw [r1, r2, t1, t2, ← Int.natCast_mul]
  refine ⟨?_, ?_, ?_, ?_, fun j hj => ?_⟩
  · obtain ⟨x, x1, x2⟩ := sd.1 31 (by decide) (by decide)
    have x1 : x < a * b := x1
    show 0 ≤ (D.1 31).toInt ∧ (D.1 31).toInt < _
    rw [x2, nI_toInt (by omega)]
    omega
  · obtain ⟨x, x1, x2⟩ := sd.1 32 (by decide) (by decide)
    have x1 : x < 64 := x1
    show 0 ≤ (D.1 32).toInt ∧ (D.1 32).toInt < _
    rw [x2, nI_toInt (by omega)]
    omega
  · obtain ⟨x, x1, x2⟩ := sd.1 50 (by decide) (by decide)
    have x1 : x < 65536 := x1
    show 0 ≤ (D.1 50).toInt ∧ (D.1 50).toInt < _
    rw [x2, nI_toInt (by omega)]
    omega
  · obtain ⟨x, x1, x2⟩ := sd.1 51 (by decide) (by decide)
    have x1 : x < 10 := x1
    show 0 ≤ (D.1 51).toInt ∧ (D.1 51).toInt ≤ _
    rw [x2, nI_toInt (by omega)]
    omega
  · obtain ⟨x, x1, x2⟩ := sd.1 (34 + j) (by omega) (by omega)
    have eB : ee_B a b (34 + j) = 7 := by
      unfold ee_B
      rw [if_neg (by omega), if_neg (by omega), if_neg (by omega), if_neg (by omega), if_pos (by omega)]
    rw [eB] at x1
    rw [ee_wS_th, x2, nI_toInt (by omega)]
    omega
/-! as the class tells it -/
theorem ee_CL.pxl {h : eb_H} {v k : Nat} {o : Option (List Nat)} (r : ee_CL h v k o) (l : ee_ol o) (hv : 89 ≤ eb_ix v) : PXL h v k (ee_wl o) := by
  cases o with
  | none => exact r
  | some cs =>
    obtain ⟨l', r1, r2, c, st, nm, ⟨a1, a2, a3⟩, ⟨b1, b2, b3, b4, b5⟩, c1, d1, e1⟩ := r
    have ln : (cs.map nI).length = cs.length := List.length_map ..
    have ln2 : (cs.map ee_t1).length = cs.length := List.length_map ..
    refine ⟨l', c, st, nm, r1, ⟨a1, a2⟩, ⟨b1, b2, by omega, ?_⟩, c1, d1, fun j hj => ?_⟩
    · rw [b5, List.length_reverse, ln2, ln]
    · rw [ln] at hj
      rw [ee_ro_rev _ e1 j (by rw [ln2]; exact hj), ee_mpg ee_t1 cs j 0 hj, ee_mpg nI cs j 0 hj]
      exact (ee_tct ((l cs rfl).2 _ (ee_mem cs j hj))).symm
theorem ee_XR.pxv {g0 h : eb_H} {v : Nat} {tx : Nat → Nat} {n p a b c s : Nat} {D : ee_D} (x : ee_XR g0 h v tx n p D) (dw : ee_DW D a b c s) (sd : ee_sd D a b) : PXV h v (ee_wV D s) := by
  obtain ⟨x1, x2, x3, ⟨x4, x5⟩, x6⟩ := x
  have hv := x1.vk
  refine ⟨⟨hv.1, hv.2.1, Or.inr hv.2.2⟩, x3 1 (by decide) (by decide), x3 2 (by decide) (by decide), x3 3 (by decide) (by decide), x3 0 (by decide) (by decide), (x3 4 (by decide) (by decide)).trans dw.2.2.2.1, ⟨x1.2.2.2.2.1, fun j hj => ?_⟩, ⟨x1.2.2.2.2.2, fun j hj => ?_⟩, x4.pxl sd.2.1 hv.2.2, x5.pxl sd.2.2 hv.2.2⟩
  · have hj : j < s := hj
    have s4 := dw.2.2.2.2
    have e := x3 (27 + j) (by omega) (by omega)
    rw [ee_at_hs j (by omega)] at e
    exact e
  · have e := x3 (11 + j) (by omega) (by omega)
    rw [ee_at_ht j hj] at e
    exact e
theorem ee_XR.pxs {g0 h : eb_H} {v : Nat} {tx : Nat → Nat} {n p : Nat} {D : ee_D} (x : ee_XR g0 h v tx n p D) : PXS h s_reader_start (ee_wS D) := by
  obtain ⟨x1, x2, x3, ⟨x4, x5⟩, x6⟩ := x
  refine ⟨x3 31 (by decide) (by decide), x3 32 (by decide) (by decide), x3 33 (by decide) (by decide), x3 50 (by decide) (by decide), x3 51 (by decide) (by decide), ko_s_reader_start_5 x1.ko, fun j hj => ?_⟩
  have e := x3 (34 + j) (by omega) (by omega)
  rw [ee_at_th j hj] at e
  rw [ee_wS_th]
  exact e
/-! as the reference tells it -/
theorem ee_RL.pml {h : eb_H} {F : Nat → Int32} {f i : Nat} {o : Option (List Nat)} (r : ee_RL F f i o) (hi : i < 2) (hf : f ≤ 900) (e : ∀ j, j < 1164 → eb_I h s_m_all j = F j) : PML h 0 i (ee_wl o) := by
  have z5 : (0 : Nat) + 5 + i = 5 + i := by omega
  have z7 : (0 : Nat) + 7 + i = 7 + i := by omega
  have z9 : (0 : Nat) + 9 + i = 9 + i := by omega
  cases o with
  | none =>
    show eb_I h s_m_all (0 + 5 + i) = 0
    rw [z5, e _ (by omega)]
    exact r
  | some cs =>
    obtain ⟨r1, f0, r2, r3, r4, r5⟩ := r
    have ln : (cs.map nI).length = cs.length := List.length_map ..
    refine ⟨by rw [z5, e _ (by omega)]; exact r1, f0, by rw [ln]; omega, by rw [z7, e _ (by omega)]; exact r3, by rw [z9, ln, e _ (by omega)]; exact r4, fun j hj => ?_⟩
    rw [ln] at hj
    have z : (0 : Nat) + 264 + f0 + j = 264 + f0 + j := by omega
    rw [z, e _ (by omega), ee_mpg nI cs j 0 hj]
    exact r5 j hj
theorem ee_RF.pmv {h : eb_H} {F : Nat → Int32} {D : ee_D} {a b c s : Nat} (r : ee_RF F D) (dw : ee_DW D a b c s) (hf : D.2.1 ≤ 900) (e : ∀ j, j < 1164 → eb_I h s_m_all j = F j) : PMV h 0 (ee_wV D s) := by
  obtain ⟨r1, r2, r3, r4⟩ := r
  have g : ∀ j, j ≤ 52 → (j < 5 ∨ 11 ≤ j) → eb_I h s_m_all j = D.1 j := fun j h1 h2 => by
    rw [e j (by omega)]
    exact r1 j h1 h2
  have s4 := dw.2.2.2.2
  refine ⟨g 0 (by omega) (by omega), g 1 (by omega) (by omega), g 2 (by omega) (by omega), g 3 (by omega) (by omega), (g 4 (by omega) (by omega)).trans dw.2.2.2.1, r3.pml (by decide) hf e, r4.pml (by decide) hf e, fun j hj => ?_, fun j hj => ?_⟩
  · rw [show (0 : Nat) + 11 + j = 11 + j by omega]
    exact g (11 + j) (by omega) (by omega)
  · have hj : j < s := hj
    rw [show (0 : Nat) + 27 + j = 27 + j by omega]
    exact g (27 + j) (by omega) (by omega)
theorem ee_RF.pms {h : eb_H} {F : Nat → Int32} {D : ee_D} (r : ee_RF F D) (e : ∀ j, j < 1164 → eb_I h s_m_all j = F j) : PMS h 31 (ee_wS D) := by
  have g : ∀ j, j ≤ 52 → (j < 5 ∨ 11 ≤ j) → eb_I h s_m_all j = D.1 j := fun j h1 h2 => by
    rw [e j (by omega)]
    exact r.1 j h1 h2
  refine ⟨g 31 (by omega) (by omega), g 32 (by omega) (by omega), g 33 (by omega) (by omega), fun j hj => ?_, g 50 (by omega) (by omega), g 51 (by omega) (by omega)⟩
  rw [ee_wS_th, show (31 : Nat) + 3 + j = 34 + j by omega]
  exact g (34 + j) (by omega) (by omega)
end EBWORLD
