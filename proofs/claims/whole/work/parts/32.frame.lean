section EBFRAME
/-- the cells by which the class tells its world -/
def eb_isW (c : Nat) : Prop := eb_kd c ≠ 19 ∧ (eb_ix c = 0 ∨ eb_ix c = 3 ∨ eb_ix c = 4 ∨ (12 ≤ eb_ix c ∧ eb_ix c ≤ 16) ∨ (21 ≤ eb_ix c ∧ eb_ix c ≤ 42) ∨ eb_ix c = 57 ∨ (59 ≤ eb_ix c ∧ eb_ix c ≤ 70) ∨ 89 ≤ eb_ix c)
def eb_two (h : eb_H) : Prop := (eb_R h s_flights 10 = some s_flights_amounts0 ∧ eb_R h s_flights 11 = some s_flights_others0) ∨ (eb_R h s_flights 10 = some s_flights_others0 ∧ eb_R h s_flights 11 = some s_flights_amounts0)
theorem PXS.mvW {h h' : eb_H} {a : Nat} {s : eb_St} (p : PXS h a s) (q : eb_same eb_isW h h') (a1 : eb_isW a) (a2 : eb_isW (a + 524807)) : PXS h' a s := p.mv (q a a1).1 (q a a1).2.2 (q _ a2).1
theorem PXV.mvW {h h' : eb_H} {v : Nat} {V : eb_Va} (p : PXV h v V) (q : eb_same eb_isW h h') : PXV h' v V := p.mv (q.weak (fun c z => by unfold eb_isV at z; unfold eb_isW; omega))
theorem PX.mv {w : eb_Wo} {h h' : eb_H} (p : PX w h) (q : eb_same eb_isW h h') (t : eb_two h') : PX w h' := by
  have qt := q s_tape (by unfold eb_isW eb_ix eb_kd s_tape; omega)
  have qx := q s_tape_text (by unfold eb_isW eb_ix eb_kd s_tape_text; omega)
  have qe := q s_EB (by unfold eb_isW eb_ix eb_kd s_EB; omega)
  have qp := q s_past (by unfold eb_isW eb_ix eb_kd s_past; omega)
  have qi := q s_imageValleys (by unfold eb_isW eb_ix eb_kd s_imageValleys; omega)
  refine ⟨?_, ?_, ?_, ?_, ?_, ?_, ?_, ?_, ?_, ?_, t⟩
  · rw [qt.1]; exact p.fed
  · rw [qx.1]; exact p.text
  · rw [qt.1]; exact p.fault
  · rw [qt.1]; exact p.place
  · obtain ⟨v, e, pv⟩ := p.va
    exact ⟨v, by rw [qe.2.2]; exact e, pv.mvW q⟩
  · exact p.now.mvW q (by unfold eb_isW eb_ix eb_kd s_now; omega) (by unfold eb_isW eb_ix eb_kd s_now; omega)
  · rw [qp.1]; exact p.size
  · obtain ⟨n, hn, e, f⟩ := p.past
    refine ⟨n, hn, by rw [qp.1]; exact e, fun i hi => (f i hi).mvW q ?_ ?_⟩
    · have := Nat.mod_lt (n + 9 - i) (show 0 < 10 by omega)
      unfold eb_isW eb_ix eb_kd s_past_states_0
      omega
    · have := Nat.mod_lt (n + 9 - i) (show 0 < 10 by omega)
      unfold eb_isW eb_ix eb_kd s_past_states_0
      omega
  · intro i hi
    have p1 := p.tray i hi
    have q1 := q (s_trays_0 + 1048576 * i) (by unfold eb_isW eb_ix eb_kd s_trays_0; omega)
    have q2 := q (s_trays_0_values + 1048576 * i) (by unfold eb_isW eb_ix eb_kd s_trays_0_values; omega)
    cases hq : w.tray i with
    | none => rw [hq] at p1; unfold PXT at p1 ⊢; rw [q1.1]; exact p1
    | some z => rw [hq] at p1; unfold PXT at p1 ⊢; rw [q1.1, q2.2.1]; exact p1
  · intro i hi
    have p1 := p.img i hi
    cases hq : w.img i with
    | none => rw [hq] at p1; unfold PXI at p1 ⊢; rw [qi.2.2]; exact p1
    | some z =>
      rw [hq] at p1
      unfold PXI at p1 ⊢
      rw [qi.2.2]
      obtain ⟨⟨v, e, pv⟩, ps⟩ := p1
      exact ⟨⟨v, e, pv.mvW q⟩, ps.mvW q (by unfold eb_isW eb_ix eb_kd s_imageStates_0; omega) (by unfold eb_isW eb_ix eb_kd s_imageStates_0; omega)⟩
/-- what the reference does leaves the class's world -/
theorem PX.mvM {w : eb_Wo} {h h' : eb_H} (p : PX w h) (q : eb_same (fun c => ¬ eb_isM c) h h') : PX w h' := by
  refine p.mv (q.weak (fun c z => by unfold eb_isW at z; unfold eb_isM; omega)) ?_
  have qf := q s_flights (by unfold eb_isM eb_ix s_flights; omega)
  unfold eb_two
  rw [qf.2.2]
  exact p.two
theorem PM.mv {w : eb_Wo} {h h' : eb_H} (p : PM w h) (q : eb_same eb_isM h h') : PM w h' := by
  have q0 := q s_MO (by unfold eb_isM eb_ix s_MO; omega)
  have q1 := q s_m_all (by unfold eb_isM eb_ix s_m_all; omega)
  have q2 := q s_m_tape (by unfold eb_isM eb_ix s_m_tape; omega)
  have q3 := q s_m_rowSort (by unfold eb_isM eb_ix s_m_rowSort; omega)
  have q4 := q s_m_rowMany (by unfold eb_isM eb_ix s_m_rowMany; omega)
  have q5 := q s_m_numbers (by unfold eb_isM eb_ix s_m_numbers; omega)
  have q6 := q s_m_hasImage (by unfold eb_isM eb_ix s_m_hasImage; omega)
  have eS : ∀ o s, PMS h o s → PMS h' o s := fun o s z => by unfold PMS at z ⊢; rw [q1.1]; exact z
  have eL : ∀ B i l, PML h B i l → PML h' B i l := fun B i l z => by
    cases l with
    | none => unfold PML at z ⊢; rw [q1.1]; exact z
    | some cs => unfold PML at z ⊢; rw [q1.1]; exact z
  have eV : ∀ B V, PMV h B V → PMV h' B V := fun B V z => by
    obtain ⟨z1, z2, z3, z4, z5, z6, z7, z8, z9⟩ := z
    unfold PMV
    rw [q1.1]
    exact ⟨z1, z2, z3, z4, z5, eL _ _ _ z6, eL _ _ _ z7, z8, z9⟩
  refine ⟨?_, ?_, ?_, ?_, eV _ _ p.va, eS _ _ p.now, ?_, fun i hi => eS _ _ (p.past i hi), ?_, ?_⟩
  · rw [q0.1]; exact p.fed
  · rw [q2.1]; exact p.text
  · rw [q0.1]; exact p.fault
  · rw [q0.1]; exact p.place
  · rw [q1.1]; exact p.size
  · intro i hi
    have p1 := p.tray i hi
    cases hq : w.tray i with
    | none => rw [hq] at p1; unfold PMT at p1 ⊢; rw [q3.1]; exact p1
    | some z => rw [hq] at p1; unfold PMT at p1 ⊢; rw [q3.1, q4.1, q5.2.1]; exact p1
  · intro i hi
    have p1 := p.img i hi
    cases hq : w.img i with
    | none => rw [hq] at p1; unfold PMI at p1 ⊢; rw [q6.1]; exact p1
    | some z =>
      rw [hq] at p1
      unfold PMI at p1 ⊢
      rw [q6.1]
      exact ⟨p1.1, eV _ _ p1.2.1, eS _ _ p1.2.2⟩
/-- each call of the reference begins by laying down its count of what is spent -/
theorem PM.z0 {w : eb_Wo} {h : eb_H} {v : Int32} (p : PM w h) : PM w (eb_sI h s_MO 0 v) := by
  have e : ∀ c, c ≠ s_MO → eb_I (eb_sI h s_MO 0 v) c = eb_I h c := fun c z => eb_I_sIn z
  have q1 := e s_m_all (by decide)
  have q2 := e s_m_tape (by decide)
  have q3 := e s_m_rowSort (by decide)
  have q4 := e s_m_rowMany (by decide)
  have q6 := e s_m_hasImage (by decide)
  have eS : ∀ o s, PMS h o s → PMS (eb_sI h s_MO 0 v) o s := fun o s z => by unfold PMS at z ⊢; rw [q1]; exact z
  have eL : ∀ B i l, PML h B i l → PML (eb_sI h s_MO 0 v) B i l := fun B i l z => by
    cases l with
    | none => unfold PML at z ⊢; rw [q1]; exact z
    | some cs => unfold PML at z ⊢; rw [q1]; exact z
  have eV : ∀ B V, PMV h B V → PMV (eb_sI h s_MO 0 v) B V := fun B V z => by
    obtain ⟨z1, z2, z3, z4, z5, z6, z7, z8, z9⟩ := z
    unfold PMV
    rw [q1]
    exact ⟨z1, z2, z3, z4, z5, eL _ _ _ z6, eL _ _ _ z7, z8, z9⟩
  refine ⟨?_, ?_, ?_, ?_, eV _ _ p.va, eS _ _ p.now, ?_, fun i hi => eS _ _ (p.past i hi), ?_, ?_⟩
  · rw [eb_I_sI]; exact p.fed
  · rw [q2]; exact p.text
  · rw [eb_I_sI]; exact p.fault
  · rw [eb_I_sI]; exact p.place
  · rw [q1]; exact p.size
  · intro i hi
    have p1 := p.tray i hi
    cases hq : w.tray i with
    | none => rw [hq] at p1; unfold PMT at p1 ⊢; rw [q3]; exact p1
    | some z => rw [hq] at p1; unfold PMT at p1 ⊢; rw [q3, q4]; exact p1
  · intro i hi
    have p1 := p.img i hi
    cases hq : w.img i with
    | none => rw [hq] at p1; unfold PMI at p1 ⊢; rw [q6]; exact p1
    | some z =>
      rw [hq] at p1
      unfold PMI at p1 ⊢
      rw [q6]
      exact ⟨p1.1, eV _ _ p1.2.1, eS _ _ p1.2.2⟩
/-- the invariant again, where neither side changed its world -/
theorem eb_Inv.z0 {L : Nat} {xs : Nat → Int32} {k : Nat} {h : eb_H} {v : Int32} (a : eb_Inv L xs k h) : eb_Inv L xs (k + 1) (eb_sI h s_MO 0 v) := by
  obtain ⟨a1, a2, a3, w, b1, b2, b3, b4, b5, b6⟩ := a
  refine ⟨a1, a2, a3, w, b1.mvM ?_, b2.z0, b3, b4, ?_, ?_⟩
  · exact eb_same.rfl.sI (by unfold eb_isM eb_ix s_MO; omega)
  · show eb_n h + 4 * w.fed ≤ _
    omega
  · show eb_z h + 42 * w.fed ≤ _
    omega
end EBFRAME
