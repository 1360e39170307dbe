section EBPAIR
variable {L : Nat} {xs : Nat → Int32}
/-- nothing made, the script as it was -/
def eb_nn (h h' : eb_H) : Prop := eb_n h' = eb_n h ∧ eb_z h' = eb_z h ∧ eb_XL h' = eb_XL h ∧ eb_X h' = eb_X h
theorem eb_nn.rfl {h : eb_H} : eb_nn h h := ⟨Eq.refl _, Eq.refl _, Eq.refl _, Eq.refl _⟩
theorem eb_nn.trans {h h1 h2 : eb_H} (a : eb_nn h h1) (b : eb_nn h1 h2) : eb_nn h h2 := ⟨b.1.trans a.1, b.2.1.trans a.2.1, b.2.2.1.trans a.2.2.1, b.2.2.2.trans a.2.2.2⟩
theorem eb_nz.nn {h h' : eb_H} (a : eb_nz h h') : eb_nn h h' := ⟨a.1, a.2.1, a.2.2.1, a.2.2.2.1⟩
def ec_isM (c : Nat) : Prop := eb_isM c ∧ eb_kd c ≠ 19
/-- the cells by which the reference tells its world, but for the object itself -/
def ec_pm (c : Nat) : Prop := c = s_m_all ∨ c = s_m_tape ∨ c = s_m_rowSort ∨ c = s_m_rowMany ∨ c = s_m_hasImage
theorem PM.mvD {w : eb_Wo} {h h' : eb_H} (p : PM w h) (m5 : eb_I h' s_MO 5 = eb_I h s_MO 5) (m13 : eb_I h' s_MO 13 = eb_I h s_MO 13) (m14 : eb_I h' s_MO 14 = eb_I h s_MO 14) (hI : ∀ c, ec_pm c → eb_I h' c = eb_I h c) (hJ : eb_J h' s_m_numbers = eb_J h s_m_numbers) : PM w h' := by
  have q1 := hI s_m_all (Or.inl rfl)
  have q2 := hI s_m_tape (Or.inr (Or.inl rfl))
  have q3 := hI s_m_rowSort (Or.inr (Or.inr (Or.inl rfl)))
  have q4 := hI s_m_rowMany (Or.inr (Or.inr (Or.inr (Or.inl rfl))))
  have q6 := hI s_m_hasImage (Or.inr (Or.inr (Or.inr (Or.inr rfl))))
  have eS : ∀ o s, PMS h o s → PMS h' o s := fun o s z => by unfold PMS at z ⊢; rw [q1]; exact z
  have eL : ∀ B i l, PML h B i l → PML h' B i l := fun B i l z => by
    cases l with
    | none => unfold PML at z ⊢; rw [q1]; exact z
    | some cs => unfold PML at z ⊢; rw [q1]; exact z
  have eV : ∀ B V, PMV h B V → PMV h' B V := fun B V z => by
    obtain ⟨z1, z2, z3, z4, z5, z6, z7, z8, z9⟩ := z
    unfold PMV
    rw [q1]
    exact ⟨z1, z2, z3, z4, z5, eL _ _ _ z6, eL _ _ _ z7, z8, z9⟩
  refine ⟨?_, ?_, ?_, ?_, eV _ _ p.va, eS _ _ p.now, ?_, fun i hi => eS _ _ (p.past i hi), ?_, ?_⟩
  · rw [m5]; exact p.fed
  · rw [q2]; exact p.text
  · rw [m13]; exact p.fault
  · rw [m14]; exact p.place
  · rw [q1]; exact p.size
  · intro i hi
    have p1 := p.tray i hi
    cases hq : w.tray i with
    | none => rw [hq] at p1; unfold PMT at p1 ⊢; rw [q3]; exact p1
    | some z => rw [hq] at p1; unfold PMT at p1 ⊢; rw [q3, q4, hJ]; exact p1
  · intro i hi
    have p1 := p.img i hi
    cases hq : w.img i with
    | none => rw [hq] at p1; unfold PMI at p1 ⊢; rw [q6]; exact p1
    | some z =>
      rw [hq] at p1
      unfold PMI at p1 ⊢
      rw [q6]
      exact ⟨p1.1, eV _ _ p1.2.1, eS _ _ p1.2.2⟩
theorem ec_pm_M (c : Nat) (z : ec_pm c) : ec_isM c := by
  rcases z with rfl | rfl | rfl | rfl | rfl
  · unfold ec_isM eb_isM eb_ix eb_kd s_m_all; omega
  · unfold ec_isM eb_isM eb_ix eb_kd s_m_tape; omega
  · unfold ec_isM eb_isM eb_ix eb_kd s_m_rowSort; omega
  · unfold ec_isM eb_isM eb_ix eb_kd s_m_rowMany; omega
  · unfold ec_isM eb_isM eb_ix eb_kd s_m_hasImage; omega
theorem PM.mvK {w : eb_Wo} {h h' : eb_H} (p : PM w h) (q : eb_same ec_isM h h') : PM w h' := by
  have q0 := q s_MO (by unfold ec_isM eb_isM eb_ix eb_kd s_MO; omega)
  have q5 := q s_m_numbers (by unfold ec_isM eb_isM eb_ix eb_kd s_m_numbers; omega)
  exact p.mvD (by rw [q0.1]) (by rw [q0.1]) (by rw [q0.1]) (fun c z => (q c (ec_pm_M c z)).1) q5.2.1
/-- what the class does: the reference's cells as they were -/
def eb_fx (h h' : eb_H) : Prop := eb_KO h' ∧ eb_nn h h' ∧ eb_same ec_isM h h'
theorem eb_fx.trans {h h1 h2 : eb_H} (a : eb_fx h h1) (b : eb_fx h1 h2) : eb_fx h h2 := ⟨b.1, a.2.1.trans b.2.1, a.2.2.trans b.2.2⟩
theorem eb_fx.rfl {h : eb_H} (ko : eb_KO h) : eb_fx h h := ⟨ko, eb_nn.rfl, eb_same.rfl⟩
/-- what the reference does: the class's cells as they were -/
def eb_fm (h h' : eb_H) : Prop := eb_KO h' ∧ eb_nn h h' ∧ eb_same (fun c => ¬ eb_isM c) h h'
theorem eb_fm.trans {h h1 h2 : eb_H} (a : eb_fm h h1) (b : eb_fm h1 h2) : eb_fm h h2 := ⟨b.1, a.2.1.trans b.2.1, a.2.2.trans b.2.2⟩
theorem eb_fm.rfl {h : eb_H} (ko : eb_KO h) : eb_fm h h := ⟨ko, eb_nn.rfl, eb_same.rfl⟩
theorem eb_fm.sI {h h1 : eb_H} (a : eb_fm h h1) {i k : Nat} {v : Int32} (m : eb_isM i) : eb_fm h (eb_sI h1 i k v) := ⟨a.1, a.2.1, a.2.2.sI (fun z => z m)⟩
theorem eb_fm.sJ {h h1 : eb_H} (a : eb_fm h h1) {i k : Nat} {v : Int64} (m : eb_isM i) : eb_fm h (eb_sJ h1 i k v) := ⟨a.1, a.2.1, a.2.2.sJ (fun z => z m)⟩
theorem eb_fm.z0 {h : eb_H} (ko : eb_KO h) {v : Int32} : eb_fm h (eb_sI h s_MO 0 v) := (eb_fm.rfl ko).sI (by unfold eb_isM eb_ix s_MO; omega)
theorem eb_fm.of {h h1 : eb_H} (ko : eb_KO h) (a : eb_nz h h1) (b : eb_same (fun c => ¬ eb_isM c) h h1) : eb_fm h h1 := ⟨a.ko ko, a.nn, b⟩
theorem eb_fx.of {h h1 : eb_H} (ko : eb_KO h) (a : eb_nz h h1) (b : eb_same ec_isM h h1) : eb_fx h h1 := ⟨a.ko ko, a.nn, b⟩
/-- a pair out of its two sides -/
theorem eb_mkP {kx km : Nat} {args : List Value} {k : Nat} {h : eb_H} {w : eb_Wo} (y : Int32) (w' : eb_Wo) (eL : eb_XL h = L) (eX : eb_X h = xs) (pX : PX w h) (pM : PM w h) (b4 : 89 ≤ eb_n h) (b5 : eb_n h + 4 * w.fed ≤ 89 + 83 * k) (b6 : eb_z h + 42 * w.fed ≤ 34257 + 869 * k) (ok : eb_okW w') (hf : w'.fed ≤ w.fed + 20)
    (X : eb_Ct 1299 kx (.ref s_EB :: args) h (fun r h' => r = some (.int y) ∧ eb_fx h h' ∧ PX w' h'))
    (M : ∀ h1, eb_KO h1 → PM w h1 → eb_Ct 1299 km (.ref s_MO :: args) h1 (fun r h' => r = some (.int y) ∧ eb_fm h1 h' ∧ PM w' h')) : eb_Pr kx km args (eb_Inv L xs (k + 1)) h := by
  refine X.mono ?_
  rintro r h1 ⟨rfl, ⟨ko1, n1, s1⟩, p1⟩
  refine ⟨y, rfl, ko1, n1.2.2.1, n1.2.2.2, (M h1 ko1 (pM.mvK s1)).mono ?_⟩
  rintro r h2 ⟨rfl, ⟨ko2, n2, s2⟩, p2⟩
  refine ⟨rfl, ko2, (n2.2.2.1.trans n1.2.2.1).trans eL, (n2.2.2.2.trans n1.2.2.2).trans eX, w', p1.mvM s2, p2, ok, ?_, ?_, ?_⟩
  · rw [n2.1, n1.1]; exact b4
  · rw [n2.1, n1.1]; omega
  · rw [n2.2.1, n1.2.1]; omega
theorem eb_mkPL {kx km : Nat} {args : List Value} {k : Nat} {h : eb_H} {w : eb_Wo} (y : Int64) (w' : eb_Wo) (eL : eb_XL h = L) (eX : eb_X h = xs) (pX : PX w h) (pM : PM w h) (b4 : 89 ≤ eb_n h) (b5 : eb_n h + 4 * w.fed ≤ 89 + 83 * k) (b6 : eb_z h + 42 * w.fed ≤ 34257 + 869 * k) (ok : eb_okW w') (hf : w'.fed ≤ w.fed + 20)
    (X : eb_Ct 1299 kx (.ref s_EB :: args) h (fun r h' => r = some (.long y) ∧ eb_fx h h' ∧ PX w' h'))
    (M : ∀ h1, eb_KO h1 → PM w h1 → eb_Ct 1299 km (.ref s_MO :: args) h1 (fun r h' => r = some (.long y) ∧ eb_fm h1 h' ∧ PM w' h')) : eb_PrL kx km args (eb_Inv L xs (k + 1)) h := by
  refine X.mono ?_
  rintro r h1 ⟨rfl, ⟨ko1, n1, s1⟩, p1⟩
  refine ⟨y, rfl, ko1, n1.2.2.1, n1.2.2.2, (M h1 ko1 (pM.mvK s1)).mono ?_⟩
  rintro r h2 ⟨rfl, ⟨ko2, n2, s2⟩, p2⟩
  refine ⟨rfl, ko2, (n2.2.2.1.trans n1.2.2.1).trans eL, (n2.2.2.2.trans n1.2.2.2).trans eX, w', p1.mvM s2, p2, ok, ?_, ?_, ?_⟩
  · rw [n2.1, n1.1]; exact b4
  · rw [n2.1, n1.1]; omega
  · rw [n2.2.1, n1.2.1]; omega
/-- the two sides of a call, over a world -/
def eb_XS (kx : Nat) (args : List Value) (w w' : eb_Wo) (y : Value) : Prop := ∀ h, eb_KO h → PX w h → eb_Ct 1299 kx (.ref s_EB :: args) h (fun r h' => r = some y ∧ eb_fx h h' ∧ PX w' h')
def eb_MS (km : Nat) (args : List Value) (w w' : eb_Wo) (y : Value) : Prop := ∀ h, eb_KO h → PM w h → eb_Ct 1299 km (.ref s_MO :: args) h (fun r h' => r = some y ∧ eb_fm h h' ∧ PM w' h')
theorem eb_pr {kx km : Nat} {args : List Value} {k : Nat} {h : eb_H} (inv : eb_Inv L xs k h) (H : ∀ w, eb_okW w → ∃ y w', eb_okW w' ∧ w'.fed ≤ w.fed + 20 ∧ eb_XS kx args w w' (.int y) ∧ eb_MS km args w w' (.int y)) : eb_Pr kx km args (eb_Inv L xs (k + 1)) h := by
  obtain ⟨ko, eL, eX, w, b1, b2, b3, b4, b5, b6⟩ := inv
  obtain ⟨y, w', a1, a2, a3, a4⟩ := H w b3
  exact eb_mkP y w' eL eX b1 b2 b4 b5 b6 a1 a2 (a3 h ko b1) a4
theorem eb_prL {kx km : Nat} {args : List Value} {k : Nat} {h : eb_H} (inv : eb_Inv L xs k h) (H : ∀ w, eb_okW w → ∃ y w', eb_okW w' ∧ w'.fed ≤ w.fed + 20 ∧ eb_XS kx args w w' (.long y) ∧ eb_MS km args w w' (.long y)) : eb_PrL kx km args (eb_Inv L xs (k + 1)) h := by
  obtain ⟨ko, eL, eX, w, b1, b2, b3, b4, b5, b6⟩ := inv
  obtain ⟨y, w', a1, a2, a3, a4⟩ := H w b3
  exact eb_mkPL y w' eL eX b1 b2 b4 b5 b6 a1 a2 (a3 h ko b1) a4
/-- behind the first act of each call of the reference -/
theorem eb_MS.of {km : Nat} {args : List Value} {w w' : eb_Wo} {y : Value} (H : ∀ h g, eb_KO h → g = eb_sI h s_MO 0 0 → eb_KO g → PM w g → ∀ Q, (∀ h', eb_fm g h' → PM w' h' → Q (some y) h') → eb_Ct 1299 km (.ref s_MO :: args) h Q) : eb_MS km args w w' y := by
  intro h ko p
  refine H h _ ko rfl ko p.z0 _ ?_
  intro h' f q
  exact ⟨rfl, (eb_fm.z0 ko).trans f, q⟩
theorem eb_XS.of {kx : Nat} {args : List Value} {w w' : eb_Wo} {y : Value} (H : ∀ h, eb_KO h → PX w h → ∀ Q, (∀ h', eb_fx h h' → PX w' h' → Q (some y) h') → eb_Ct 1299 kx (.ref s_EB :: args) h Q) : eb_XS kx args w w' y := by
  intro h ko p
  exact H h ko p _ (fun h' f q => ⟨rfl, f, q⟩)
/-- the class's frame where all its world stands -/
theorem PX.same {w : eb_Wo} {h h' : eb_H} (p : PX w h) (q : eb_same (fun c => eb_isW c ∨ c = s_flights) h h') : PX w h' := by
  refine p.mv (q.weak (fun c z => Or.inl z)) ?_
  unfold eb_two
  rw [(q s_flights (Or.inr rfl)).2.2]
  exact p.two
end EBPAIR
