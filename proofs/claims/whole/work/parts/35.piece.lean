section EBPIECE
/-! the class's world by pieces: each piece wants its own cells only -/
def eb_in (a b : Nat) (c : Nat) : Prop := eb_kd c ≠ 19 ∧ a ≤ eb_ix c ∧ eb_ix c ≤ b
theorem PXV.mvP {h h' : eb_H} {v : Nat} {V : eb_Va} (p : PXV h v V) (q : eb_same (eb_in 12 14) h h') (q9 : eb_same (fun c => eb_kd c ≠ 19 ∧ 89 ≤ eb_ix c) h h') : PXV h' v V := p.mv (fun c z => by
  by_cases e : 89 ≤ eb_ix c
  · exact q9 c ⟨z.2, e⟩
  · exact q c ⟨z.2, by have := z.1; omega⟩)
theorem PX.tape_mv {w : eb_Wo} {h h' : eb_H} (p : PX w h) (q : eb_same (eb_in 3 4) h h') : eb_I h' s_tape 1 = nI w.fed ∧ (∀ j, j < w.fed → eb_I h' s_tape_text j = (w.text j).toInt8.toInt32) ∧ eb_I h' s_tape 7 = w.fault ∧ eb_I h' s_tape 8 = w.place := by
  have qt := q s_tape (by unfold eb_in eb_ix eb_kd s_tape; omega)
  have qx := q s_tape_text (by unfold eb_in eb_ix eb_kd s_tape_text; omega)
  rw [qt.1, qx.1]
  exact ⟨p.fed, p.text, p.fault, p.place⟩
theorem PX.va_mv {w : eb_Wo} {h h' : eb_H} (p : PX w h) (q0 : eb_same (eb_in 0 0) h h') (q : eb_same (eb_in 12 14) h h') (q9 : eb_same (fun c => eb_kd c ≠ 19 ∧ 89 ≤ eb_ix c) h h') : ∃ v, eb_R h' s_EB 2 = some v ∧ PXV h' v w.va := by
  obtain ⟨v, e, pv⟩ := p.va
  have qe := q0 s_EB (by unfold eb_in eb_ix eb_kd s_EB; omega)
  exact ⟨v, by rw [qe.2.2]; exact e, pv.mvP q q9⟩
theorem PX.now_mv {w : eb_Wo} {h h' : eb_H} (p : PX w h) (q : eb_same (eb_in 15 16) h h') : PXS h' s_now w.now := by
  have q1 := q s_now (by unfold eb_in eb_ix eb_kd s_now; omega)
  have q2 := q (s_now + 524807) (by unfold eb_in eb_ix eb_kd s_now; omega)
  exact p.now.mv q1.1 q1.2.2 q2.1
theorem PX.past_mv {w : eb_Wo} {h h' : eb_H} (p : PX w h) (q : eb_same (eb_in 21 42) h h') : eb_I h' s_past 2 = nI w.past.length ∧ ∃ n, n < 10 ∧ eb_I h' s_past 1 = nI n ∧ ∀ i, i < w.past.length → PXS h' (s_past_states_0 + 1048576 * ((n + 9 - i) % 10)) (w.past.getD i w.now) := by
  have qp := q s_past (by unfold eb_in eb_ix eb_kd s_past; omega)
  obtain ⟨n, hn, e, f⟩ := p.past
  refine ⟨by rw [qp.1]; exact p.size, n, hn, by rw [qp.1]; exact e, fun i hi => ?_⟩
  have hm := Nat.mod_lt (n + 9 - i) (show 0 < 10 by omega)
  have q1 := q (s_past_states_0 + 1048576 * ((n + 9 - i) % 10)) (by unfold eb_in eb_ix eb_kd s_past_states_0; omega)
  have q2 := q (s_past_states_0 + 1048576 * ((n + 9 - i) % 10) + 524807) (by unfold eb_in eb_ix eb_kd s_past_states_0; omega)
  exact (f i hi).mv q1.1 q1.2.2 q2.1
theorem PXT.mv {h h' : eb_H} {i : Nat} {t : Option eb_Ty} (p : PXT h i t) (hi : i < 4) (q : eb_same (eb_in (59 + 2 * i) (60 + 2 * i)) h h') : PXT h' i t := by
  have q1 := q (s_trays_0 + 1048576 * i) (by unfold eb_in eb_ix eb_kd s_trays_0; omega)
  have q2 := q (s_trays_0_values + 1048576 * i) (by unfold eb_in eb_ix eb_kd s_trays_0_values; omega)
  cases t with
  | none => unfold PXT at p ⊢; rw [q1.1]; exact p
  | some z => unfold PXT at p ⊢; rw [q1.1, q2.2.1]; exact p
theorem PXI.mv {h h' : eb_H} {i : Nat} {t : Option (eb_Va × eb_St)} (p : PXI h i t) (hi : i < 2) (q0 : eb_R h' s_imageValleys i = eb_R h s_imageValleys i) (q1 : eb_same (eb_in (67 + 2 * i) (68 + 2 * i)) h h') (q : eb_same (eb_in 12 14) h h') (q9 : eb_same (fun c => eb_kd c ≠ 19 ∧ 89 ≤ eb_ix c) h h') : PXI h' i t := by
  cases t with
  | none => unfold PXI at p ⊢; rw [q0]; exact p
  | some z =>
    unfold PXI at p ⊢
    rw [q0]
    obtain ⟨⟨v, e, pv⟩, ps⟩ := p
    have r1 := q1 (s_imageStates_0 + 1048576 * i) (by unfold eb_in eb_ix eb_kd s_imageStates_0; omega)
    have r2 := q1 (s_imageStates_0 + 1048576 * i + 524807) (by unfold eb_in eb_ix eb_kd s_imageStates_0; omega)
    exact ⟨⟨v, e, pv.mvP q q9⟩, ps.mv r1.1 r1.2.2 r2.1⟩
theorem PX.two_mv {w : eb_Wo} {h h' : eb_H} (p : PX w h) (q : eb_same (eb_in 43 43) h h') : eb_two h' := by
  have qf := q s_flights (by unfold eb_in eb_ix eb_kd s_flights; omega)
  unfold eb_two
  rw [qf.2.2]
  exact p.two
/-! worlds anew -/
def eb_Wo.setTray (w : eb_Wo) (i : Nat) (t : eb_Ty) : eb_Wo := (w.1, w.2.1, w.2.2.1, w.va, w.now, w.past, va_up w.tray i (some t), w.img)
theorem eb_trs {h : eb_H} (ko : eb_KO h) {i : Nat} (hi : i < 4) : eb_R h s_trays i = some (s_trays_0 + 1048576 * i) ∧ eb_kd (s_trays_0 + 1048576 * i) = 8 ∧ eb_R h (s_trays_0 + 1048576 * i) 0 = some (s_trays_0_values + 1048576 * i) ∧ eb_kd (s_trays_0_values + 1048576 * i) = 14 ∧ eb_ln (s_trays_0_values + 1048576 * i) = 40 := by
  rcases (by omega : i = 0 ∨ i = 1 ∨ i = 2 ∨ i = 3) with rfl | rfl | rfl | rfl
  · exact ⟨ko_s_trays_0 ko, by decide, ko_s_trays_0_0 ko, by decide, by decide⟩
  · exact ⟨ko_s_trays_1 ko, by decide, ko_s_trays_1_0 ko, by decide, by decide⟩
  · exact ⟨ko_s_trays_2 ko, by decide, ko_s_trays_2_0 ko, by decide, by decide⟩
  · exact ⟨ko_s_trays_3 ko, by decide, ko_s_trays_3_0 ko, by decide, by decide⟩
theorem PX.setTray {w : eb_Wo} {h h' : eb_H} (p : PX w h) {i : Nat} (hi : i < 4) (t : eb_Ty) (q : eb_same (fun c => c ≠ s_trays_0 + 1048576 * i ∧ c ≠ s_trays_0_values + 1048576 * i) h h') (pt : PXT h' i (some t)) : PX (w.setTray i t) h' := by
  have wk : ∀ a b, (b < 59 ∨ 66 < a) → eb_same (eb_in a b) h h' := fun a b z => q.weak (fun c y => by
    unfold eb_in at y
    refine ⟨fun e => ?_, fun e => ?_⟩
    · rw [e] at y; unfold eb_ix s_trays_0 at y; omega
    · rw [e] at y; unfold eb_ix s_trays_0_values at y; omega)
  have w9 : eb_same (fun c => eb_kd c ≠ 19 ∧ 89 ≤ eb_ix c) h h' := q.weak (fun c y => by
    refine ⟨fun e => ?_, fun e => ?_⟩
    · rw [e] at y; unfold eb_ix s_trays_0 at y; omega
    · rw [e] at y; unfold eb_ix s_trays_0_values at y; omega)
  obtain ⟨t1, t2, t3, t4⟩ := p.tape_mv (wk 3 4 (by omega))
  obtain ⟨y1, y2⟩ := p.past_mv (wk 21 42 (by omega))
  refine ⟨t1, t2, t3, t4, p.va_mv (wk 0 0 (by omega)) (wk 12 14 (by omega)) w9, p.now_mv (wk 15 16 (by omega)), y1, y2, ?_, ?_, p.two_mv (wk 43 43 (by omega))⟩
  · intro j hj
    show PXT h' j (va_up w.tray i (some t) j)
    by_cases e : j = i
    · subst e
      rw [show va_up w.tray j (some t) j = some t by simp [va_up]]
      exact pt
    · rw [show va_up w.tray i (some t) j = w.tray j by simp [va_up, e]]
      refine (p.tray j hj).mv hj (q.weak (fun c y => ?_))
      unfold eb_in at y
      refine ⟨fun z => ?_, fun z => ?_⟩
      · rw [z] at y; unfold eb_ix s_trays_0 at y; omega
      · rw [z] at y; unfold eb_ix s_trays_0_values at y; omega
  · intro j hj
    refine (p.img j hj).mv hj ?_ (wk _ _ (by omega)) (wk 12 14 (by omega)) w9
    rw [(wk 57 57 (by omega) s_imageValleys (by unfold eb_in eb_ix eb_kd s_imageValleys; omega)).2.2]
end EBPIECE
