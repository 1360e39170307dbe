section EBINV
/-! ===== what both keep: a world of the document, and where each keeps it ===== -/
structure eb_St where
  bat : Int32
  echoes : Int32
  steps : Int32
  drifts : Int32
  wind : Int32
  th : Nat → Int32
structure eb_Va where
  rows : Int32
  cols : Int32
  bears : Int32
  lines : Int32
  houses : Nat
  hc : Nat → Int32
  ht : Nat → Int32
  may : Option (List Int32)
  takes : Option (List Int32)
structure eb_Ty where
  sort : Int32
  size : Int32
  val : Nat → Int64
structure eb_Wo where
  fed : Nat
  text : Nat → Int32
  fault : Int32
  place : Int32
  va : eb_Va
  now : eb_St
  past : List eb_St
  tray : Nat → Option eb_Ty
  img : Nat → Option (eb_Va × eb_St)
/-- two heaps say the same of the cells of P -/
def eb_same (P : Nat → Prop) (h h' : eb_H) : Prop := ∀ c, P c → eb_I h' c = eb_I h c ∧ eb_J h' c = eb_J h c ∧ eb_R h' c = eb_R h c
theorem eb_same.rfl {P : Nat → Prop} {h : eb_H} : eb_same P h h := fun _ _ => ⟨Eq.refl _, Eq.refl _, Eq.refl _⟩
theorem eb_same.trans {P : Nat → Prop} {h h1 h2 : eb_H} (a : eb_same P h h1) (b : eb_same P h1 h2) : eb_same P h h2 := fun c p => ⟨(b c p).1.trans (a c p).1, (b c p).2.1.trans (a c p).2.1, (b c p).2.2.trans (a c p).2.2⟩
theorem eb_same.weak {P P' : Nat → Prop} {h h1 : eb_H} (a : eb_same P h h1) (q : ∀ c, P' c → P c) : eb_same P' h h1 := fun c p => a c (q c p)
theorem eb_same.sI {P : Nat → Prop} {h h1 : eb_H} {i k : Nat} {v : Int32} (a : eb_same P h h1) (n : ¬ P i) : eb_same P h (eb_sI h1 i k v) := fun c p => by
  have e : c ≠ i := fun z => n (z ▸ p)
  refine ⟨?_, (a c p).2⟩
  rw [← (a c p).1]
  simp [eb_I, eb_sI, eb_rI, va_up, e]
theorem eb_same.rI {P : Nat → Prop} {h h1 : eb_H} {i : Nat} {f : Nat → Int32} (a : eb_same P h h1) (n : ¬ P i) : eb_same P h (eb_rI h1 i f) := fun c p => by
  have e : c ≠ i := fun z => n (z ▸ p)
  refine ⟨?_, (a c p).2⟩
  rw [← (a c p).1]
  simp [eb_I, eb_rI, va_up, e]
theorem eb_same.sJ {P : Nat → Prop} {h h1 : eb_H} {i k : Nat} {v : Int64} (a : eb_same P h h1) (n : ¬ P i) : eb_same P h (eb_sJ h1 i k v) := fun c p => by
  have e : c ≠ i := fun z => n (z ▸ p)
  refine ⟨(a c p).1, ?_, (a c p).2.2⟩
  rw [← (a c p).2.1]
  simp [eb_J, eb_sJ, eb_rJ, va_up, e]
theorem eb_same.sR {P : Nat → Prop} {h h1 : eb_H} {i k : Nat} {v : Option Nat} (a : eb_same P h h1) (n : ¬ P i) : eb_same P h (eb_sR h1 i k v) := fun c p => by
  have e : c ≠ i := fun z => n (z ▸ p)
  refine ⟨(a c p).1, (a c p).2.1, ?_⟩
  rw [← (a c p).2.2]
  simp [eb_R, eb_sR, eb_rR, va_up, e]
theorem eb_same.nw {P : Nat → Prop} {h h1 : eb_H} {k len sl : Nat} (a : eb_same P h h1) (n : ¬ P (eb_nx h1 k len)) : eb_same P h (eb_nw h1 k len sl) := fun c p => by
  have e : c ≠ eb_nx h1 k len := fun z => n (z ▸ p)
  refine ⟨?_, ?_, ?_⟩
  · rw [← (a c p).1]; simp [eb_I, eb_nw, va_up, e]
  · rw [← (a c p).2.1]; simp [eb_J, eb_nw, va_up, e]
  · rw [← (a c p).2.2]; simp [eb_R, eb_nw, va_up, e]
/-! reading behind writing -/
theorem eb_I_sI {h : eb_H} {i k j : Nat} {v : Int32} : eb_I (eb_sI h i k v) i j = if j = k then v else eb_I h i j := by
  simp [eb_I, eb_sI, eb_rI, va_up, upd]
theorem eb_I_sI' {h : eb_H} {i k : Nat} {v : Int32} : eb_I (eb_sI h i k v) i k = v := by rw [eb_I_sI, if_pos rfl]
theorem eb_I_sIn {h : eb_H} {i c k : Nat} {v : Int32} (e : c ≠ i) : eb_I (eb_sI h i k v) c = eb_I h c := by
  simp [eb_I, eb_sI, eb_rI, va_up, e]
theorem eb_J_sI {h : eb_H} {i k : Nat} {v : Int32} : eb_J (eb_sI h i k v) = eb_J h := rfl
theorem eb_R_sI {h : eb_H} {i k : Nat} {v : Int32} : eb_R (eb_sI h i k v) = eb_R h := rfl
/-- a law's code of the reference, as the class has it -/
def eb_tc (c : Int32) : Int32 := if c = 3000 then 1060 else if c = 3001 then 1061 else if c = 3002 then 1070 else if c = 3003 then 1050 else if c = 3004 then 1051 else if c = 3005 then 1052 else if c = 3006 then 1040 else if c = 3007 then 1030 else if c = 3008 then 1020 else c
/-! the class's side -/
def PXS (h : eb_H) (a : Nat) (s : eb_St) : Prop := eb_I h a 0 = s.bat ∧ eb_I h a 1 = s.echoes ∧ eb_I h a 2 = s.steps ∧ eb_I h a 3 = s.drifts ∧ eb_I h a 4 = s.wind ∧ eb_R h a 5 = some (a + 524807) ∧ ∀ j, j < 16 → eb_I h (a + 524807) j = s.th j
def PXL (h : eb_H) (v k : Nat) : Option (List Int32) → Prop
  | none => eb_R h v k = none
  | some cs => ∃ l c st nm, eb_R h v k = some l ∧ (eb_kd l = 2 ∧ 89 ≤ eb_ix l) ∧ (eb_R h l 0 = some c ∧ eb_kd c = 13 ∧ 89 ≤ eb_ix c ∧ eb_ln c = cs.length) ∧ (eb_R h l 1 = some st ∧ eb_kd st = 19 ∧ eb_ln st = 32) ∧ (eb_R h l 2 = some nm ∧ eb_kd nm = 19 ∧ eb_ln nm = 6) ∧ ∀ j, j < cs.length → eb_I h c j = eb_tc (cs.getD j 0)
def PXV (h : eb_H) (v : Nat) (V : eb_Va) : Prop := (eb_kd v = 9 ∧ eb_ln v = 0 ∧ (eb_ix v = 12 ∨ 89 ≤ eb_ix v)) ∧ eb_I h v 0 = V.rows ∧ eb_I h v 1 = V.cols ∧ eb_I h v 2 = V.bears ∧ eb_I h v 3 = V.lines ∧ eb_I h v 4 = nI V.houses ∧ (eb_R h v 5 = some (v + 524420) ∧ ∀ j, j < V.houses → eb_I h (v + 524420) j = V.hc j) ∧ (eb_R h v 6 = some (v + 1049092) ∧ ∀ j, j < 16 → eb_I h (v + 1049092) j = V.ht j) ∧ PXL h v 7 V.may ∧ PXL h v 8 V.takes
def PXT (h : eb_H) (i : Nat) : Option eb_Ty → Prop
  | none => eb_I h (s_trays_0 + 1048576 * i) 2 = 1
  | some t => eb_I h (s_trays_0 + 1048576 * i) 2 = 0 ∧ eb_I h (s_trays_0 + 1048576 * i) 1 = t.sort ∧ eb_I h (s_trays_0 + 1048576 * i) 3 = t.size ∧ ∀ j, j < 40 → eb_J h (s_trays_0_values + 1048576 * i) j = t.val j
def PXI (h : eb_H) (i : Nat) : Option (eb_Va × eb_St) → Prop
  | none => eb_R h s_imageValleys i = none
  | some q => (∃ v, eb_R h s_imageValleys i = some v ∧ PXV h v q.1) ∧ PXS h (s_imageStates_0 + 1048576 * i) q.2
/-- the class's cells tell the world w -/
structure PX (w : eb_Wo) (h : eb_H) : Prop where
  fed : eb_I h s_tape 1 = nI w.fed
  text : ∀ j, j < w.fed → eb_I h s_tape_text j = (w.text j).toInt8.toInt32
  fault : eb_I h s_tape 7 = w.fault
  place : eb_I h s_tape 8 = w.place
  va : ∃ v, eb_R h s_EB 2 = some v ∧ PXV h v w.va
  now : PXS h s_now w.now
  size : eb_I h s_past 2 = nI w.past.length
  past : ∃ n, n < 10 ∧ eb_I h s_past 1 = nI n ∧ ∀ i, i < w.past.length → PXS h (s_past_states_0 + 1048576 * ((n + 9 - i) % 10)) (w.past.getD i w.now)
  tray : ∀ i, i < 4 → PXT h i (w.tray i)
  img : ∀ i, i < 2 → PXI h i (w.img i)
  two : (eb_R h s_flights 10 = some s_flights_amounts0 ∧ eb_R h s_flights 11 = some s_flights_others0) ∨ (eb_R h s_flights 10 = some s_flights_others0 ∧ eb_R h s_flights 11 = some s_flights_amounts0)
/-! the model's side -/
def PMS (h : eb_H) (o : Nat) (s : eb_St) : Prop := eb_I h s_m_all o = s.bat ∧ eb_I h s_m_all (o + 1) = s.echoes ∧ eb_I h s_m_all (o + 2) = s.steps ∧ (∀ j, j < 16 → eb_I h s_m_all (o + 3 + j) = s.th j) ∧ eb_I h s_m_all (o + 19) = s.drifts ∧ eb_I h s_m_all (o + 20) = s.wind
def PML (h : eb_H) (B i : Nat) : Option (List Int32) → Prop
  | none => eb_I h s_m_all (B + 5 + i) = 0
  | some cs => eb_I h s_m_all (B + 5 + i) = 1 ∧ ∃ f, f + cs.length ≤ 900 ∧ eb_I h s_m_all (B + 7 + i) = nI f ∧ eb_I h s_m_all (B + 9 + i) = nI cs.length ∧ ∀ j, j < cs.length → eb_I h s_m_all (B + 264 + f + j) = cs.getD j 0
def PMV (h : eb_H) (B : Nat) (V : eb_Va) : Prop := eb_I h s_m_all B = V.lines ∧ eb_I h s_m_all (B + 1) = V.rows ∧ eb_I h s_m_all (B + 2) = V.cols ∧ eb_I h s_m_all (B + 3) = V.bears ∧ eb_I h s_m_all (B + 4) = nI V.houses ∧ PML h B 0 V.may ∧ PML h B 1 V.takes ∧ (∀ j, j < 16 → eb_I h s_m_all (B + 11 + j) = V.ht j) ∧ ∀ j, j < V.houses → eb_I h s_m_all (B + 27 + j) = V.hc j
def PMT (h : eb_H) (i : Nat) : Option eb_Ty → Prop
  | none => eb_I h s_m_rowSort i = -1
  | some t => eb_I h s_m_rowSort i = t.sort ∧ eb_I h s_m_rowMany i = t.size ∧ ∀ j, j < 40 → eb_J h s_m_numbers (40 * i + j) = t.val j
def PMI (h : eb_H) (i : Nat) : Option (eb_Va × eb_St) → Prop
  | none => eb_I h s_m_hasImage i = 0
  | some q => eb_I h s_m_hasImage i = 1 ∧ PMV h (1164 * (i + 1)) q.1 ∧ PMS h (1164 * (i + 1) + 31) q.2
/-- the reference's cells tell the world w -/
structure PM (w : eb_Wo) (h : eb_H) : Prop where
  fed : eb_I h s_MO 5 = nI w.fed
  text : ∀ j, j < w.fed → eb_I h s_m_tape j = w.text j
  fault : eb_I h s_MO 13 = w.fault
  place : eb_I h s_MO 14 = w.place
  va : PMV h 0 w.va
  now : PMS h 31 w.now
  size : eb_I h s_m_all 52 = nI w.past.length
  past : ∀ i, i < w.past.length → PMS h (53 + 21 * (w.past.length - 1 - i)) (w.past.getD i w.now)
  tray : ∀ i, i < 4 → PMT h i (w.tray i)
  img : ∀ i, i < 2 → PMI h i (w.img i)
/-! what is true of each world that comes about -/
inductive eb_Ex where
  | leaf (c : Int32)
  | un (a : eb_Ex)
  | bin (op : Int32) (a b : eb_Ex)
def eb_flat : eb_Ex → List Int32
  | .leaf c => [c]
  | .un a => eb_flat a ++ [3006]
  | .bin op a b => eb_flat a ++ eb_flat b ++ [op]
def eb_wdt : eb_Ex → Nat
  | .leaf _ => 1
  | .un a => eb_wdt a
  | .bin _ a b => max (eb_wdt a) (eb_wdt b + 1)
def eb_isN : eb_Ex → Prop
  | .leaf c => 0 ≤ c.toInt ∧ c.toInt ≤ 1005
  | .un _ => False
  | .bin op a b => (op = 3000 ∨ op = 3001 ∨ op = 3002) ∧ eb_isN a ∧ eb_isN b
def eb_isT : eb_Ex → Prop
  | .leaf _ => False
  | .un a => eb_isT a
  | .bin op a b => ((op = 3003 ∨ op = 3004 ∨ op = 3005) ∧ eb_isN a ∧ eb_isN b) ∨ ((op = 3007 ∨ op = 3008) ∧ eb_isT a ∧ eb_isT b)
def eb_okL (l : Option (List Int32)) : Prop := ∀ cs, l = some cs → ∃ e, eb_isT e ∧ cs = eb_flat e ∧ eb_wdt e ≤ 32
structure eb_okV (V : eb_Va) : Prop where
  rows : 1 ≤ V.rows.toInt ∧ V.rows.toInt ≤ 4
  cols : 1 ≤ V.cols.toInt ∧ V.cols.toInt ≤ 4
  bears : 1 ≤ V.bears.toInt ∧ V.bears.toInt ≤ 6
  houses : V.houses ≤ 4
  hc : ∀ j, j < V.houses → 0 ≤ (V.hc j).toInt ∧ (V.hc j).toInt < V.rows.toInt * V.cols.toInt
  ht : ∀ j, j < 16 → 0 ≤ (V.ht j).toInt ∧ (V.ht j).toInt ≤ 999
  may : eb_okL V.may
  takes : eb_okL V.takes
structure eb_okS (V : eb_Va) (s : eb_St) : Prop where
  bat : 0 ≤ s.bat.toInt ∧ s.bat.toInt < V.rows.toInt * V.cols.toInt
  echoes : 0 ≤ s.echoes.toInt ∧ s.echoes.toInt < 64
  drifts : 0 ≤ s.drifts.toInt ∧ s.drifts.toInt < 65536
  wind : 0 ≤ s.wind.toInt ∧ s.wind.toInt ≤ 9
  th : ∀ j, j < 16 → 0 ≤ (s.th j).toInt ∧ (s.th j).toInt ≤ 6
structure eb_okW (w : eb_Wo) : Prop where
  fed : w.fed ≤ 900
  text : ∀ j, j < w.fed → 0 ≤ (w.text j).toInt ∧ (w.text j).toInt ≤ 255
  va : eb_okV w.va
  now : eb_okS w.va w.now
  len : w.past.length ≤ 10
  past : ∀ i, i < w.past.length → eb_okS w.va (w.past.getD i w.now)
  tray : ∀ i t, i < 4 → w.tray i = some t → (0 ≤ t.sort.toInt ∧ t.sort.toInt ≤ 3) ∧ 0 ≤ t.size.toInt ∧ t.size.toInt ≤ 40
  img : ∀ i q, i < 2 → w.img i = some q → eb_okV q.1 ∧ eb_okS q.1 q.2
/-- the invariant of the law's loop -/
def eb_Inv (L : Nat) (xs : Nat → Int32) (k : Nat) (h : eb_H) : Prop := eb_KO h ∧ eb_XL h = L ∧ eb_X h = xs ∧ ∃ w, PX w h ∧ PM w h ∧ eb_okW w ∧ 89 ≤ eb_n h ∧ eb_n h + 4 * w.fed ≤ 89 + 83 * k ∧ eb_z h + 42 * w.fed ≤ 34257 + 869 * k
theorem eb_Inv.ok {L : Nat} {xs : Nat → Int32} {k : Nat} {h : eb_H} (a : eb_Inv L xs k h) : eb_KO h ∧ eb_XL h = L ∧ eb_X h = xs := ⟨a.1, a.2.1, a.2.2.1⟩
theorem eb_Inv.up {L : Nat} {xs : Nat → Int32} {k : Nat} {h : eb_H} (a : eb_Inv L xs k h) : eb_Inv L xs (k + 1) h := by
  obtain ⟨a1, a2, a3, w, b1, b2, b3, b4, b5, b6⟩ := a
  exact ⟨a1, a2, a3, w, b1, b2, b3, b4, by omega, by omega⟩
/-! the two sides apart: what one writes, the other does not see -/
def eb_isM (c : Nat) : Prop := 71 ≤ eb_ix c ∧ eb_ix c ≤ 88
/-- cells that the class's world is told by -/
def eb_isX (c : Nat) : Prop := ¬ eb_isM c ∧ eb_kd c ≠ 19
theorem PXS.mv {h h' : eb_H} {a : Nat} {s : eb_St} (p : PXS h a s) (e1 : eb_I h' a = eb_I h a) (e2 : eb_R h' a = eb_R h a) (e3 : eb_I h' (a + 524807) = eb_I h (a + 524807)) : PXS h' a s := by
  unfold PXS
  rw [e1, e2, e3]
  exact p
theorem PXL.mv {h h' : eb_H} {v k : Nat} {l : Option (List Int32)} (p : PXL h v k l) (e : eb_R h' v = eb_R h v) (s : eb_same (fun c => 89 ≤ eb_ix c ∧ eb_kd c ≠ 19) h h') : PXL h' v k l := by
  cases l with
  | none => unfold PXL at p ⊢; rw [e]; exact p
  | some cs =>
    obtain ⟨l, c, st, nm, p1, p2, p3, p4, p5, p6⟩ := p
    have sl := s l ⟨p2.2, by rw [p2.1]; decide⟩
    have sc := s c ⟨p3.2.2.1, by rw [p3.2.1]; decide⟩
    refine ⟨l, c, st, nm, by rw [e]; exact p1, p2, ?_, ?_, ?_, ?_⟩
    · rw [sl.2.2]; exact p3
    · rw [sl.2.2]; exact p4
    · rw [sl.2.2]; exact p5
    · rw [sc.1]; exact p6
theorem eb_ix_h {v : Nat} (k : eb_kd v = 9) (l : eb_ln v = 0) : eb_ix (v + 524420) = eb_ix v + 1 ∧ eb_kd (v + 524420) = 13 ∧ eb_ix (v + 1049092) = eb_ix v + 2 ∧ eb_kd (v + 1049092) = 13 := by
  unfold eb_kd eb_ln at *
  unfold eb_ix eb_kd
  omega
/-- the cells of valleys and laws -/
def eb_isV (c : Nat) : Prop := ((12 ≤ eb_ix c ∧ eb_ix c ≤ 14) ∨ 89 ≤ eb_ix c) ∧ eb_kd c ≠ 19
theorem PXV.mv {h h' : eb_H} {v : Nat} {V : eb_Va} (p : PXV h v V) (s : eb_same eb_isV h h') : PXV h' v V := by
  obtain ⟨p0, p1, p2, p3, p4, p5, p6, p7, p8, p9⟩ := p
  obtain ⟨i1, i2, i3, i4⟩ := eb_ix_h p0.1 p0.2.1
  have sv := s v ⟨by omega, by rw [p0.1]; decide⟩
  have sc := s (v + 524420) ⟨by omega, by rw [i2]; decide⟩
  have sh := s (v + 1049092) ⟨by omega, by rw [i4]; decide⟩
  have s9 : eb_same (fun c => 89 ≤ eb_ix c ∧ eb_kd c ≠ 19) h h' := s.weak (fun c q => ⟨Or.inr q.1, q.2⟩)
  refine ⟨p0, ?_, ?_, ?_, ?_, ?_, ?_, ?_, p8.mv sv.2.2 s9, p9.mv sv.2.2 s9⟩
  · rw [sv.1]; exact p1
  · rw [sv.1]; exact p2
  · rw [sv.1]; exact p3
  · rw [sv.1]; exact p4
  · rw [sv.1]; exact p5
  · rw [sv.2.2, sc.1]; exact p6
  · rw [sv.2.2, sh.1]; exact p7
end EBINV
