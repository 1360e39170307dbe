section EBINV
/-! ===== what both keep: a world of the document, and where each keeps it ===== -/
/-- bat 0, echoes 1, steps 2, drifts 3, wind 4, what stands in cell j: 5 + j -/
def eb_St : Type := Nat → Int32
def eb_St.bat (s : eb_St) : Int32 := s 0
def eb_St.echoes (s : eb_St) : Int32 := s 1
def eb_St.steps (s : eb_St) : Int32 := s 2
def eb_St.drifts (s : eb_St) : Int32 := s 3
def eb_St.wind (s : eb_St) : Int32 := s 4
def eb_St.th (s : eb_St) (j : Nat) : Int32 := s (5 + j)
/-- houses; rows 0, cols 1, bears 2, lines 3; cells of houses; heights; the two laws -/
def eb_Va : Type := Nat × (Nat → Int32) × (Nat → Int32) × (Nat → Int32) × Option (List Int32) × Option (List Int32)
def eb_Va.houses (V : eb_Va) : Nat := V.1
def eb_Va.rows (V : eb_Va) : Int32 := V.2.1 0
def eb_Va.cols (V : eb_Va) : Int32 := V.2.1 1
def eb_Va.bears (V : eb_Va) : Int32 := V.2.1 2
def eb_Va.lines (V : eb_Va) : Int32 := V.2.1 3
def eb_Va.hc (V : eb_Va) : Nat → Int32 := V.2.2.1
def eb_Va.ht (V : eb_Va) : Nat → Int32 := V.2.2.2.1
def eb_Va.may (V : eb_Va) : Option (List Int32) := V.2.2.2.2.1
def eb_Va.takes (V : eb_Va) : Option (List Int32) := V.2.2.2.2.2
/-- a tray that is there: sort, size, numbers -/
def eb_Ty : Type := Int32 × Int32 × (Nat → Int64)
def eb_Ty.sort (t : eb_Ty) : Int32 := t.1
def eb_Ty.size (t : eb_Ty) : Int32 := t.2.1
def eb_Ty.val (t : eb_Ty) : Nat → Int64 := t.2.2
/-- fed, text, fault and place, valley, now, past (the newest first), trays, images -/
def eb_Wo : Type := Nat × (Nat → Int32) × (Int32 × Int32) × eb_Va × eb_St × List eb_St × (Nat → Option eb_Ty) × (Nat → Option (eb_Va × eb_St))
def eb_Wo.fed (w : eb_Wo) : Nat := w.1
def eb_Wo.text (w : eb_Wo) : Nat → Int32 := w.2.1
def eb_Wo.fault (w : eb_Wo) : Int32 := w.2.2.1.1
def eb_Wo.place (w : eb_Wo) : Int32 := w.2.2.1.2
def eb_Wo.va (w : eb_Wo) : eb_Va := w.2.2.2.1
def eb_Wo.now (w : eb_Wo) : eb_St := w.2.2.2.2.1
def eb_Wo.past (w : eb_Wo) : List eb_St := w.2.2.2.2.2.1
def eb_Wo.tray (w : eb_Wo) : Nat → Option eb_Ty := w.2.2.2.2.2.2.1
def eb_Wo.img (w : eb_Wo) : Nat → Option (eb_Va × eb_St) := w.2.2.2.2.2.2.2
/-- two heaps say the same of the cells of P -/
def eb_same (P : Nat → Prop) (h h' : eb_H) : Prop := ∀ c, P c → eb_I h' c = eb_I h c ∧ eb_J h' c = eb_J h c ∧ eb_R h' c = eb_R h c
theorem eb_same.rfl {P : Nat → Prop} {h : eb_H} : eb_same P h h := fun _ _ => ⟨Eq.refl _, Eq.refl _, Eq.refl _⟩
theorem eb_same.trans {P : Nat → Prop} {h h1 h2 : eb_H} (a : eb_same P h h1) (b : eb_same P h1 h2) : eb_same P h h2 := fun c p => ⟨(b c p).1.trans (a c p).1, (b c p).2.1.trans (a c p).2.1, (b c p).2.2.trans (a c p).2.2⟩
theorem eb_same.weak {P P' : Nat → Prop} {h h1 : eb_H} (a : eb_same P h h1) (q : ∀ c, P' c → P c) : eb_same P' h h1 := fun c p => a c (q c p)
theorem eb_same.sI {P : Nat → Prop} {h h1 : eb_H} {i k : Nat} {v : Int32} (a : eb_same P h h1) (n : ¬ P i) : eb_same P h (eb_sI h1 i k v) := fun c p => by
  have e : c ≠ i := fun z => n (z ▸ p)
  refine ⟨?_, (a c p).2⟩
  rw [← (a c p).1]
  simp [eb_I, eb_sI, eb_rI, va_up, e]
theorem eb_same.rI {P : Nat → Prop} {h h1 : eb_H} {i : Nat} {f : Nat → Int32} (a : eb_same P h h1) (n : ¬ P i) : eb_same P h (eb_rI h1 i f) := fun c p => by
  have e : c ≠ i := fun z => n (z ▸ p)
  refine ⟨?_, (a c p).2⟩
  rw [← (a c p).1]
  simp [eb_I, eb_rI, va_up, e]
theorem eb_same.sJ {P : Nat → Prop} {h h1 : eb_H} {i k : Nat} {v : Int64} (a : eb_same P h h1) (n : ¬ P i) : eb_same P h (eb_sJ h1 i k v) := fun c p => by
  have e : c ≠ i := fun z => n (z ▸ p)
  refine ⟨(a c p).1, ?_, (a c p).2.2⟩
  rw [← (a c p).2.1]
  simp [eb_J, eb_sJ, eb_rJ, va_up, e]
theorem eb_same.sR {P : Nat → Prop} {h h1 : eb_H} {i k : Nat} {v : Option Nat} (a : eb_same P h h1) (n : ¬ P i) : eb_same P h (eb_sR h1 i k v) := fun c p => by
  have e : c ≠ i := fun z => n (z ▸ p)
  refine ⟨(a c p).1, (a c p).2.1, ?_⟩
  rw [← (a c p).2.2]
  simp [eb_R, eb_sR, eb_rR, va_up, e]
theorem eb_same.nw {P : Nat → Prop} {h h1 : eb_H} {k len sl : Nat} (a : eb_same P h h1) (n : ¬ P (eb_nx h1 k len)) : eb_same P h (eb_nw h1 k len sl) := fun c p => by
  have e : c ≠ eb_nx h1 k len := fun z => n (z ▸ p)
  refine ⟨?_, ?_, ?_⟩
  · rw [← (a c p).1]; simp [eb_I, eb_nw, va_up, e]
  · rw [← (a c p).2.1]; simp [eb_J, eb_nw, va_up, e]
  · rw [← (a c p).2.2]; simp [eb_R, eb_nw, va_up, e]
/-! reading behind writing -/
theorem eb_I_sI {h : eb_H} {i k j : Nat} {v : Int32} : eb_I (eb_sI h i k v) i j = if j = k then v else eb_I h i j := by
  simp [eb_I, eb_sI, eb_rI, va_up, upd]
theorem eb_I_sI' {h : eb_H} {i k : Nat} {v : Int32} : eb_I (eb_sI h i k v) i k = v := by rw [eb_I_sI, if_pos rfl]
theorem eb_I_sIn {h : eb_H} {i c k : Nat} {v : Int32} (e : c ≠ i) : eb_I (eb_sI h i k v) c = eb_I h c := by
  simp [eb_I, eb_sI, eb_rI, va_up, e]
theorem eb_J_sI {h : eb_H} {i k : Nat} {v : Int32} : eb_J (eb_sI h i k v) = eb_J h := rfl
theorem eb_R_sI {h : eb_H} {i k : Nat} {v : Int32} : eb_R (eb_sI h i k v) = eb_R h := rfl
/-- a law's code of the reference, as the class has it -/
def eb_tc (c : Int32) : Int32 := if c = 3000 then 1060 else if c = 3001 then 1061 else if c = 3002 then 1070 else if c = 3003 then 1050 else if c = 3004 then 1051 else if c = 3005 then 1052 else if c = 3006 then 1040 else if c = 3007 then 1030 else if c = 3008 then 1020 else c
/-! the class's side -/
def PXS (h : eb_H) (a : Nat) (s : eb_St) : Prop := eb_I h a 0 = s.bat ∧ eb_I h a 1 = s.echoes ∧ eb_I h a 2 = s.steps ∧ eb_I h a 3 = s.drifts ∧ eb_I h a 4 = s.wind ∧ eb_R h a 5 = some (a + 524807) ∧ ∀ j, j < 16 → eb_I h (a + 524807) j = s.th j
def PXL (h : eb_H) (v k : Nat) : Option (List Int32) → Prop
  | none => eb_R h v k = none
  | some cs => ∃ l c st nm, eb_R h v k = some l ∧ (eb_kd l = 2 ∧ 89 ≤ eb_ix l) ∧ (eb_R h l 0 = some c ∧ eb_kd c = 13 ∧ 89 ≤ eb_ix c ∧ eb_ln c = cs.length) ∧ (eb_R h l 1 = some st ∧ eb_kd st = 19 ∧ eb_ln st = 32) ∧ (eb_R h l 2 = some nm ∧ eb_kd nm = 19 ∧ eb_ln nm = 6) ∧ ∀ j, j < cs.length → eb_I h c j = eb_tc (cs.getD j 0)
def PXV (h : eb_H) (v : Nat) (V : eb_Va) : Prop := (eb_kd v = 9 ∧ eb_ln v = 0 ∧ (eb_ix v = 12 ∨ 89 ≤ eb_ix v)) ∧ eb_I h v 0 = V.rows ∧ eb_I h v 1 = V.cols ∧ eb_I h v 2 = V.bears ∧ eb_I h v 3 = V.lines ∧ eb_I h v 4 = nI V.houses ∧ (eb_R h v 5 = some (v + 524420) ∧ ∀ j, j < V.houses → eb_I h (v + 524420) j = V.hc j) ∧ (eb_R h v 6 = some (v + 1049092) ∧ ∀ j, j < 16 → eb_I h (v + 1049092) j = V.ht j) ∧ PXL h v 7 V.may ∧ PXL h v 8 V.takes
def PXT (h : eb_H) (i : Nat) : Option eb_Ty → Prop
  | none => eb_I h (s_trays_0 + 1048576 * i) 2 = 1
  | some t => eb_I h (s_trays_0 + 1048576 * i) 2 = 0 ∧ eb_I h (s_trays_0 + 1048576 * i) 1 = t.sort ∧ eb_I h (s_trays_0 + 1048576 * i) 3 = t.size ∧ ∀ j : Nat, j < 40 → (j : Int) < t.size.toInt → eb_J h (s_trays_0_values + 1048576 * i) j = t.val j
def PXI (h : eb_H) (i : Nat) : Option (eb_Va × eb_St) → Prop
  | none => eb_R h s_imageValleys i = none
  | some q => (∃ v, eb_R h s_imageValleys i = some v ∧ PXV h v q.1) ∧ PXS h (s_imageStates_0 + 1048576 * i) q.2
/-- the class's cells tell the world w -/
def PX (w : eb_Wo) (h : eb_H) : Prop := (eb_I h s_tape 1 = nI w.fed) ∧ (∀ j, j < w.fed → eb_I h s_tape_text j = (w.text j).toInt8.toInt32) ∧ (eb_I h s_tape 7 = w.fault) ∧ (eb_I h s_tape 8 = w.place) ∧ (∃ v, eb_R h s_EB 2 = some v ∧ PXV h v w.va) ∧ (PXS h s_now w.now) ∧ (eb_I h s_past 2 = nI w.past.length) ∧ (∃ n, n < 10 ∧ eb_I h s_past 1 = nI n ∧ ∀ i, i < w.past.length → PXS h (s_past_states_0 + 1048576 * ((n + 9 - i) % 10)) (w.past.getD i w.now)) ∧ (∀ i, i < 4 → PXT h i (w.tray i)) ∧ (∀ i, i < 2 → PXI h i (w.img i)) ∧ ((eb_R h s_flights 10 = some s_flights_amounts0 ∧ eb_R h s_flights 11 = some s_flights_others0) ∨ (eb_R h s_flights 10 = some s_flights_others0 ∧ eb_R h s_flights 11 = some s_flights_amounts0))
theorem PX.fed {w : eb_Wo} {h : eb_H} (p : PX w h) : eb_I h s_tape 1 = nI w.fed := p.1
theorem PX.text {w : eb_Wo} {h : eb_H} (p : PX w h) : ∀ j, j < w.fed → eb_I h s_tape_text j = (w.text j).toInt8.toInt32 := p.2.1
theorem PX.fault {w : eb_Wo} {h : eb_H} (p : PX w h) : eb_I h s_tape 7 = w.fault := p.2.2.1
theorem PX.place {w : eb_Wo} {h : eb_H} (p : PX w h) : eb_I h s_tape 8 = w.place := p.2.2.2.1
theorem PX.va {w : eb_Wo} {h : eb_H} (p : PX w h) : ∃ v, eb_R h s_EB 2 = some v ∧ PXV h v w.va := p.2.2.2.2.1
theorem PX.now {w : eb_Wo} {h : eb_H} (p : PX w h) : PXS h s_now w.now := p.2.2.2.2.2.1
theorem PX.size {w : eb_Wo} {h : eb_H} (p : PX w h) : eb_I h s_past 2 = nI w.past.length := p.2.2.2.2.2.2.1
theorem PX.past {w : eb_Wo} {h : eb_H} (p : PX w h) : ∃ n, n < 10 ∧ eb_I h s_past 1 = nI n ∧ ∀ i, i < w.past.length → PXS h (s_past_states_0 + 1048576 * ((n + 9 - i) % 10)) (w.past.getD i w.now) := p.2.2.2.2.2.2.2.1
theorem PX.tray {w : eb_Wo} {h : eb_H} (p : PX w h) : ∀ i, i < 4 → PXT h i (w.tray i) := p.2.2.2.2.2.2.2.2.1
theorem PX.img {w : eb_Wo} {h : eb_H} (p : PX w h) : ∀ i, i < 2 → PXI h i (w.img i) := p.2.2.2.2.2.2.2.2.2.1
theorem PX.two {w : eb_Wo} {h : eb_H} (p : PX w h) : (eb_R h s_flights 10 = some s_flights_amounts0 ∧ eb_R h s_flights 11 = some s_flights_others0) ∨ (eb_R h s_flights 10 = some s_flights_others0 ∧ eb_R h s_flights 11 = some s_flights_amounts0) := p.2.2.2.2.2.2.2.2.2.2
/-! the model's side -/
def PMS (h : eb_H) (o : Nat) (s : eb_St) : Prop := eb_I h s_m_all o = s.bat ∧ eb_I h s_m_all (o + 1) = s.echoes ∧ eb_I h s_m_all (o + 2) = s.steps ∧ (∀ j, j < 16 → eb_I h s_m_all (o + 3 + j) = s.th j) ∧ eb_I h s_m_all (o + 19) = s.drifts ∧ eb_I h s_m_all (o + 20) = s.wind
def PML (h : eb_H) (B i : Nat) : Option (List Int32) → Prop
  | none => eb_I h s_m_all (B + 5 + i) = 0
  | some cs => eb_I h s_m_all (B + 5 + i) = 1 ∧ ∃ f, f + cs.length ≤ 900 ∧ eb_I h s_m_all (B + 7 + i) = nI f ∧ eb_I h s_m_all (B + 9 + i) = nI cs.length ∧ ∀ j, j < cs.length → eb_I h s_m_all (B + 264 + f + j) = cs.getD j 0
def PMV (h : eb_H) (B : Nat) (V : eb_Va) : Prop := eb_I h s_m_all B = V.lines ∧ eb_I h s_m_all (B + 1) = V.rows ∧ eb_I h s_m_all (B + 2) = V.cols ∧ eb_I h s_m_all (B + 3) = V.bears ∧ eb_I h s_m_all (B + 4) = nI V.houses ∧ PML h B 0 V.may ∧ PML h B 1 V.takes ∧ (∀ j, j < 16 → eb_I h s_m_all (B + 11 + j) = V.ht j) ∧ ∀ j, j < V.houses → eb_I h s_m_all (B + 27 + j) = V.hc j
def PMT (h : eb_H) (i : Nat) : Option eb_Ty → Prop
  | none => eb_I h s_m_rowSort i = -1
  | some t => eb_I h s_m_rowSort i = t.sort ∧ eb_I h s_m_rowMany i = t.size ∧ ∀ j : Nat, j < 40 → (j : Int) < t.size.toInt → eb_J h s_m_numbers (40 * i + j) = t.val j
def PMI (h : eb_H) (i : Nat) : Option (eb_Va × eb_St) → Prop
  | none => eb_I h s_m_hasImage i = 0
  | some q => eb_I h s_m_hasImage i = 1 ∧ PMV h (1164 * (i + 1)) q.1 ∧ PMS h (1164 * (i + 1) + 31) q.2
/-- the reference's cells tell the world w -/
def PM (w : eb_Wo) (h : eb_H) : Prop := (eb_I h s_MO 5 = nI w.fed) ∧ (∀ j, j < w.fed → eb_I h s_m_tape j = w.text j) ∧ (eb_I h s_MO 13 = w.fault) ∧ (eb_I h s_MO 14 = w.place) ∧ (PMV h 0 w.va) ∧ (PMS h 31 w.now) ∧ (eb_I h s_m_all 52 = nI w.past.length) ∧ (∀ i, i < w.past.length → PMS h (53 + 21 * (w.past.length - 1 - i)) (w.past.getD i w.now)) ∧ (∀ i, i < 4 → PMT h i (w.tray i)) ∧ (∀ i, i < 2 → PMI h i (w.img i))
theorem PM.fed {w : eb_Wo} {h : eb_H} (p : PM w h) : eb_I h s_MO 5 = nI w.fed := p.1
theorem PM.text {w : eb_Wo} {h : eb_H} (p : PM w h) : ∀ j, j < w.fed → eb_I h s_m_tape j = w.text j := p.2.1
theorem PM.fault {w : eb_Wo} {h : eb_H} (p : PM w h) : eb_I h s_MO 13 = w.fault := p.2.2.1
theorem PM.place {w : eb_Wo} {h : eb_H} (p : PM w h) : eb_I h s_MO 14 = w.place := p.2.2.2.1
theorem PM.va {w : eb_Wo} {h : eb_H} (p : PM w h) : PMV h 0 w.va := p.2.2.2.2.1
theorem PM.now {w : eb_Wo} {h : eb_H} (p : PM w h) : PMS h 31 w.now := p.2.2.2.2.2.1
theorem PM.size {w : eb_Wo} {h : eb_H} (p : PM w h) : eb_I h s_m_all 52 = nI w.past.length := p.2.2.2.2.2.2.1
theorem PM.past {w : eb_Wo} {h : eb_H} (p : PM w h) : ∀ i, i < w.past.length → PMS h (53 + 21 * (w.past.length - 1 - i)) (w.past.getD i w.now) := p.2.2.2.2.2.2.2.1
theorem PM.tray {w : eb_Wo} {h : eb_H} (p : PM w h) : ∀ i, i < 4 → PMT h i (w.tray i) := p.2.2.2.2.2.2.2.2.1
theorem PM.img {w : eb_Wo} {h : eb_H} (p : PM w h) : ∀ i, i < 2 → PMI h i (w.img i) := p.2.2.2.2.2.2.2.2.2
/-! what is true of each world that comes about -/
/-- a sum and a condition behind it, as codes; how many values wait at most -/
def eb_isN (cs : List Int32) (n : Nat) : Prop := ∀ P : List Int32 → Nat → Prop, (∀ c : Int32, 0 ≤ c.toInt → c.toInt ≤ 1005 → P [c] 1) → (∀ op a m b n, (op = 3000 ∨ op = 3001 ∨ op = 3002) → P a m → P b n → P (a ++ b ++ [op]) (max m (n + 1))) → P cs n
def eb_isT (cs : List Int32) (n : Nat) : Prop := ∀ P : List Int32 → Nat → Prop, (∀ op a m b n, (op = 3003 ∨ op = 3004 ∨ op = 3005) → eb_isN a m → eb_isN b n → P (a ++ b ++ [op]) (max m (n + 1))) → (∀ a m, P a m → P (a ++ [3006]) m) → (∀ op a m b n, (op = 3007 ∨ op = 3008) → P a m → P b n → P (a ++ b ++ [op]) (max m (n + 1))) → P cs n
def eb_okL (l : Option (List Int32)) : Prop := ∀ cs, l = some cs → ∃ n, n ≤ 32 ∧ eb_isT cs n
def eb_okV (V : eb_Va) : Prop := (1 ≤ V.rows.toInt ∧ V.rows.toInt ≤ 4) ∧ (1 ≤ V.cols.toInt ∧ V.cols.toInt ≤ 4) ∧ (1 ≤ V.bears.toInt ∧ V.bears.toInt ≤ 6) ∧ (V.houses ≤ 4) ∧ (∀ j, j < V.houses → 0 ≤ (V.hc j).toInt ∧ (V.hc j).toInt < V.rows.toInt * V.cols.toInt) ∧ (∀ j, j < 16 → 0 ≤ (V.ht j).toInt ∧ (V.ht j).toInt ≤ 999) ∧ (eb_okL V.may) ∧ (eb_okL V.takes)
theorem eb_okV.rows {V : eb_Va} (p : eb_okV V) : 1 ≤ V.rows.toInt ∧ V.rows.toInt ≤ 4 := p.1
theorem eb_okV.cols {V : eb_Va} (p : eb_okV V) : 1 ≤ V.cols.toInt ∧ V.cols.toInt ≤ 4 := p.2.1
theorem eb_okV.bears {V : eb_Va} (p : eb_okV V) : 1 ≤ V.bears.toInt ∧ V.bears.toInt ≤ 6 := p.2.2.1
theorem eb_okV.houses {V : eb_Va} (p : eb_okV V) : V.houses ≤ 4 := p.2.2.2.1
theorem eb_okV.hc {V : eb_Va} (p : eb_okV V) : ∀ j, j < V.houses → 0 ≤ (V.hc j).toInt ∧ (V.hc j).toInt < V.rows.toInt * V.cols.toInt := p.2.2.2.2.1
theorem eb_okV.ht {V : eb_Va} (p : eb_okV V) : ∀ j, j < 16 → 0 ≤ (V.ht j).toInt ∧ (V.ht j).toInt ≤ 999 := p.2.2.2.2.2.1
theorem eb_okV.may {V : eb_Va} (p : eb_okV V) : eb_okL V.may := p.2.2.2.2.2.2.1
theorem eb_okV.takes {V : eb_Va} (p : eb_okV V) : eb_okL V.takes := p.2.2.2.2.2.2.2
def eb_okS (V : eb_Va) (s : eb_St) : Prop := (0 ≤ s.bat.toInt ∧ s.bat.toInt < V.rows.toInt * V.cols.toInt) ∧ (0 ≤ s.echoes.toInt ∧ s.echoes.toInt < 64) ∧ (0 ≤ s.drifts.toInt ∧ s.drifts.toInt < 65536) ∧ (0 ≤ s.wind.toInt ∧ s.wind.toInt ≤ 9) ∧ (∀ j, j < 16 → 0 ≤ (s.th j).toInt ∧ (s.th j).toInt ≤ 6)
theorem eb_okS.bat {V : eb_Va} {s : eb_St} (p : eb_okS V s) : 0 ≤ s.bat.toInt ∧ s.bat.toInt < V.rows.toInt * V.cols.toInt := p.1
theorem eb_okS.echoes {V : eb_Va} {s : eb_St} (p : eb_okS V s) : 0 ≤ s.echoes.toInt ∧ s.echoes.toInt < 64 := p.2.1
theorem eb_okS.drifts {V : eb_Va} {s : eb_St} (p : eb_okS V s) : 0 ≤ s.drifts.toInt ∧ s.drifts.toInt < 65536 := p.2.2.1
theorem eb_okS.wind {V : eb_Va} {s : eb_St} (p : eb_okS V s) : 0 ≤ s.wind.toInt ∧ s.wind.toInt ≤ 9 := p.2.2.2.1
theorem eb_okS.th {V : eb_Va} {s : eb_St} (p : eb_okS V s) : ∀ j, j < 16 → 0 ≤ (s.th j).toInt ∧ (s.th j).toInt ≤ 6 := p.2.2.2.2
def eb_okW (w : eb_Wo) : Prop := (w.fed ≤ 900) ∧ (∀ j, j < w.fed → 0 ≤ (w.text j).toInt ∧ (w.text j).toInt ≤ 255) ∧ (eb_okV w.va) ∧ (eb_okS w.va w.now) ∧ (w.past.length ≤ 10) ∧ (∀ i, i < w.past.length → eb_okS w.va (w.past.getD i w.now)) ∧ (∀ i t, i < 4 → w.tray i = some t → (0 ≤ t.sort.toInt ∧ t.sort.toInt ≤ 3) ∧ 0 ≤ t.size.toInt ∧ t.size.toInt ≤ 40) ∧ (∀ i q, i < 2 → w.img i = some q → eb_okV q.1 ∧ eb_okS q.1 q.2)
theorem eb_okW.fed {w : eb_Wo} (p : eb_okW w) : w.fed ≤ 900 := p.1
theorem eb_okW.text {w : eb_Wo} (p : eb_okW w) : ∀ j, j < w.fed → 0 ≤ (w.text j).toInt ∧ (w.text j).toInt ≤ 255 := p.2.1
theorem eb_okW.va {w : eb_Wo} (p : eb_okW w) : eb_okV w.va := p.2.2.1
theorem eb_okW.now {w : eb_Wo} (p : eb_okW w) : eb_okS w.va w.now := p.2.2.2.1
theorem eb_okW.len {w : eb_Wo} (p : eb_okW w) : w.past.length ≤ 10 := p.2.2.2.2.1
theorem eb_okW.past {w : eb_Wo} (p : eb_okW w) : ∀ i, i < w.past.length → eb_okS w.va (w.past.getD i w.now) := p.2.2.2.2.2.1
theorem eb_okW.tray {w : eb_Wo} (p : eb_okW w) : ∀ i t, i < 4 → w.tray i = some t → (0 ≤ t.sort.toInt ∧ t.sort.toInt ≤ 3) ∧ 0 ≤ t.size.toInt ∧ t.size.toInt ≤ 40 := p.2.2.2.2.2.2.1
theorem eb_okW.img {w : eb_Wo} (p : eb_okW w) : ∀ i q, i < 2 → w.img i = some q → eb_okV q.1 ∧ eb_okS q.1 q.2 := p.2.2.2.2.2.2.2
/-- the invariant of the law's loop -/
def eb_Inv (L : Nat) (xs : Nat → Int32) (k : Nat) (h : eb_H) : Prop := eb_KO h ∧ eb_XL h = L ∧ eb_X h = xs ∧ ∃ w, PX w h ∧ PM w h ∧ eb_okW w ∧ 89 ≤ eb_n h ∧ eb_n h + 4 * w.fed ≤ 89 + 83 * k ∧ eb_z h + 42 * w.fed ≤ 34257 + 869 * k
theorem eb_Inv.ok {L : Nat} {xs : Nat → Int32} {k : Nat} {h : eb_H} (a : eb_Inv L xs k h) : eb_KO h ∧ eb_XL h = L ∧ eb_X h = xs := ⟨a.1, a.2.1, a.2.2.1⟩
theorem eb_Inv.up {L : Nat} {xs : Nat → Int32} {k : Nat} {h : eb_H} (a : eb_Inv L xs k h) : eb_Inv L xs (k + 1) h := by
  obtain ⟨a1, a2, a3, w, b1, b2, b3, b4, b5, b6⟩ := a
  exact ⟨a1, a2, a3, w, b1, b2, b3, b4, by omega, by omega⟩
/-! the two sides apart: what one writes, the other does not see -/
def eb_isM (c : Nat) : Prop := 71 ≤ eb_ix c ∧ eb_ix c ≤ 88
/-- cells that the class's world is told by -/
def eb_isX (c : Nat) : Prop := ¬ eb_isM c ∧ eb_kd c ≠ 19
theorem PXS.mv {h h' : eb_H} {a : Nat} {s : eb_St} (p : PXS h a s) (e1 : eb_I h' a = eb_I h a) (e2 : eb_R h' a = eb_R h a) (e3 : eb_I h' (a + 524807) = eb_I h (a + 524807)) : PXS h' a s := by
  unfold PXS
  rw [e1, e2, e3]
  exact p
theorem PXL.mv {h h' : eb_H} {v k : Nat} {l : Option (List Int32)} (p : PXL h v k l) (e : eb_R h' v = eb_R h v) (s : eb_same (fun c => 89 ≤ eb_ix c ∧ eb_kd c ≠ 19) h h') : PXL h' v k l := by
  cases l with
  | none => unfold PXL at p ⊢; rw [e]; exact p
  | some cs =>
    obtain ⟨l, c, st, nm, p1, p2, p3, p4, p5, p6⟩ := p
    have sl := s l ⟨p2.2, by rw [p2.1]; decide⟩
    have sc := s c ⟨p3.2.2.1, by rw [p3.2.1]; decide⟩
    refine ⟨l, c, st, nm, by rw [e]; exact p1, p2, ?_, ?_, ?_, ?_⟩
    · rw [sl.2.2]; exact p3
    · rw [sl.2.2]; exact p4
    · rw [sl.2.2]; exact p5
    · rw [sc.1]; exact p6
theorem eb_ix_h {v : Nat} (k : eb_kd v = 9) (l : eb_ln v = 0) : eb_ix (v + 524420) = eb_ix v + 1 ∧ eb_kd (v + 524420) = 13 ∧ eb_ix (v + 1049092) = eb_ix v + 2 ∧ eb_kd (v + 1049092) = 13 := by
  unfold eb_kd eb_ln at *
  unfold eb_ix
  omega
/-- the cells of valleys and laws -/
def eb_isV (c : Nat) : Prop := ((12 ≤ eb_ix c ∧ eb_ix c ≤ 14) ∨ 89 ≤ eb_ix c) ∧ eb_kd c ≠ 19
theorem PXV.mv {h h' : eb_H} {v : Nat} {V : eb_Va} (p : PXV h v V) (s : eb_same eb_isV h h') : PXV h' v V := by
  obtain ⟨p0, p1, p2, p3, p4, p5, p6, p7, p8, p9⟩ := p
  obtain ⟨i1, i2, i3, i4⟩ := eb_ix_h p0.1 p0.2.1
  have sv := s v ⟨by omega, by rw [p0.1]; decide⟩
  have sc := s (v + 524420) ⟨by omega, by rw [i2]; decide⟩
  have sh := s (v + 1049092) ⟨by omega, by rw [i4]; decide⟩
  have s9 : eb_same (fun c => 89 ≤ eb_ix c ∧ eb_kd c ≠ 19) h h' := s.weak (fun c q => ⟨Or.inr q.1, q.2⟩)
  refine ⟨p0, ?_, ?_, ?_, ?_, ?_, ?_, ?_, p8.mv sv.2.2 s9, p9.mv sv.2.2 s9⟩
  · rw [sv.1]; exact p1
  · rw [sv.1]; exact p2
  · rw [sv.1]; exact p3
  · rw [sv.1]; exact p4
  · rw [sv.1]; exact p5
  · rw [sv.2.2, sc.1]; exact p6
  · rw [sv.2.2, sh.1]; exact p7
/-- a call of both: the same answer, and what is wanted behind -/
def eb_Pr (kx km : Nat) (args : List Value) (I : eb_H → Prop) (h : eb_H) : Prop := eb_Ct 1299 kx (.ref s_EB :: args) h (fun r h1 => ∃ y : Int32, r = some (.int y) ∧ eb_KO h1 ∧ eb_XL h1 = eb_XL h ∧ eb_X h1 = eb_X h ∧ eb_Ct 1299 km (.ref s_MO :: args) h1 (fun r2 h2 => r2 = some (.int y) ∧ I h2))
def eb_PrL (kx km : Nat) (args : List Value) (I : eb_H → Prop) (h : eb_H) : Prop := eb_Ct 1299 kx (.ref s_EB :: args) h (fun r h1 => ∃ y : Int64, r = some (.long y) ∧ eb_KO h1 ∧ eb_XL h1 = eb_XL h ∧ eb_X h1 = eb_X h ∧ eb_Ct 1299 km (.ref s_MO :: args) h1 (fun r2 h2 => r2 = some (.long y) ∧ I h2))
end EBINV
