section EBIMAGE
variable {L : Nat} {xs : Nat → Int32}
theorem PMS.mvB {h h' : eb_H} {o o' : Nat} {s : eb_St} (p : PMS h o s) (e : ∀ q, q < 21 → eb_I h' s_m_all (o' + q) = eb_I h s_m_all (o + q)) : PMS h' o' s := by
  obtain ⟨p1, p2, p3, p4, p5, p6⟩ := p
  refine ⟨(e 0 (by omega)).trans p1, (e 1 (by omega)).trans p2, (e 2 (by omega)).trans p3, fun j hj => ?_, (e 19 (by omega)).trans p5, (e 20 (by omega)).trans p6⟩
  have z := e (3 + j) (by omega)
  rw [← Nat.add_assoc, ← Nat.add_assoc] at z
  exact z.trans (p4 j hj)
theorem PML.mvB {h h' : eb_H} {B B' i : Nat} {l : Option (List Int32)} (hi : i < 2) (p : PML h B i l) (e : ∀ q, q < 1164 → q ≠ 52 → eb_I h' s_m_all (B' + q) = eb_I h s_m_all (B + q)) : PML h' B' i l := by
  have e5 := e (5 + i) (by omega) (by omega)
  have e7 := e (7 + i) (by omega) (by omega)
  have e9 := e (9 + i) (by omega) (by omega)
  rw [← Nat.add_assoc, ← Nat.add_assoc] at e5 e7 e9
  cases l with
  | none => unfold PML at p ⊢; rw [e5]; exact p
  | some cs =>
    unfold PML at p ⊢
    rw [e5, e7, e9]
    obtain ⟨p1, f, p2, p3, p4, p5⟩ := p
    refine ⟨p1, f, p2, p3, p4, fun j hj => ?_⟩
    have z := e (264 + f + j) (by omega) (by omega)
    rw [show B' + (264 + f + j) = B' + 264 + f + j by omega, show B + (264 + f + j) = B + 264 + f + j by omega] at z
    exact z.trans (p5 j hj)
theorem PMV.mvB {h h' : eb_H} {B B' : Nat} {V : eb_Va} (ok : eb_okV V) (p : PMV h B V) (e : ∀ q, q < 1164 → q ≠ 52 → eb_I h' s_m_all (B' + q) = eb_I h s_m_all (B + q)) : PMV h' B' V := by
  obtain ⟨z1, z2, z3, z4, z5, z6, z7, z8, z9⟩ := p
  have hh := ok.houses
  refine ⟨(e 0 (by omega) (by omega)).trans z1, (e 1 (by omega) (by omega)).trans z2, (e 2 (by omega) (by omega)).trans z3, (e 3 (by omega) (by omega)).trans z4, (e 4 (by omega) (by omega)).trans z5, z6.mvB (by omega) e, z7.mvB (by omega) e, fun j hj => ?_, fun j hj => ?_⟩
  · have z := e (11 + j) (by omega) (by omega)
    rw [← Nat.add_assoc, ← Nat.add_assoc] at z
    exact z.trans (z8 j hj)
  · have z := e (27 + j) (by omega) (by omega)
    rw [← Nat.add_assoc, ← Nat.add_assoc] at z
    exact z.trans (z9 j hj)
def eb_Wo.setImg (w : eb_Wo) (i : Nat) (q : eb_Va × eb_St) : eb_Wo := (w.1, w.2.1, w.2.2.1, w.va, w.now, w.past, w.tray, va_up w.img i (some q))
theorem PX.setImg {w : eb_Wo} {h h' : eb_H} (p : PX w h) {i : Nat} (hi : i < 2) (t : eb_Va × eb_St) (q : eb_same (fun c => c ≠ s_imageValleys ∧ c ≠ s_imageStates_0 + 1048576 * i ∧ c ≠ s_imageStates_0 + 1048576 * i + 524807) h h') (qr : ∀ j, j ≠ i → eb_R h' s_imageValleys j = eb_R h s_imageValleys j) (pt : PXI h' i (some t)) : PX (w.setImg i t) h' := by
  have wk : ∀ a b, (b < 57 ∨ (57 < a ∧ b < 67)) → eb_same (eb_in a b) h h' := fun a b z => q.weak (fun c y => by
    unfold eb_in at y
    refine ⟨fun e => ?_, fun e => ?_, fun e => ?_⟩
    · rw [e] at y; unfold eb_ix s_imageValleys at y; omega
    · rw [e] at y; unfold eb_ix s_imageStates_0 at y; omega
    · rw [e] at y; unfold eb_ix s_imageStates_0 at y; omega)
  have w9 : eb_same (fun c => eb_kd c ≠ 19 ∧ 89 ≤ eb_ix c) h h' := q.weak (fun c y => by
    refine ⟨fun e => ?_, fun e => ?_, fun e => ?_⟩
    · rw [e] at y; unfold eb_ix s_imageValleys at y; omega
    · rw [e] at y; unfold eb_ix s_imageStates_0 at y; omega
    · rw [e] at y; unfold eb_ix s_imageStates_0 at y; omega)
  obtain ⟨t1, t2, t3, t4⟩ := p.tape_mv (wk 3 4 (by omega))
  obtain ⟨y1, y2⟩ := p.past_mv (wk 21 42 (by omega))
  refine ⟨t1, t2, t3, t4, p.va_mv (wk 0 0 (by omega)) (wk 12 14 (by omega)) w9, p.now_mv (wk 15 16 (by omega)), y1, y2, fun j hj => (p.tray j hj).mv hj (wk _ _ (by omega)), ?_, p.two_mv (wk 43 43 (by omega))⟩
  intro j hj
  show PXI h' j (va_up w.img i (some t) j)
  by_cases e : j = i
  · subst e
    rw [show va_up w.img j (some t) j = some t by simp [va_up]]
    exact pt
  · rw [show va_up w.img i (some t) j = w.img j by simp [va_up, e]]
    refine (p.img j hj).mv hj (qr j e) (q.weak (fun c y => ?_)) (wk 12 14 (by omega)) w9
    unfold eb_in at y
    refine ⟨fun z => ?_, fun z => ?_, fun z => ?_⟩
    · rw [z] at y; unfold eb_ix s_imageValleys at y; omega
    · rw [z] at y; unfold eb_ix s_imageStates_0 at y; omega
    · rw [z] at y; unfold eb_ix s_imageStates_0 at y; omega
/-- the reference's world where only its great row changed above 1164, and what images there are -/
theorem PM.setImg {w : eb_Wo} {h h' : eb_H} (p : PM w h) (ok : eb_okW w) {i : Nat} (hi : i < 2) (hI : ∀ c, c ≠ s_m_all → c ≠ s_m_hasImage → eb_I h' c = eb_I h c) (hJ : eb_J h' = eb_J h) (hs : ∀ j, j ≠ i → eb_I h' s_m_hasImage j = eb_I h s_m_hasImage j) (h1 : eb_I h' s_m_hasImage i = 1) (ho : ∀ q, (q < 1164 * (i + 1) ∨ 1164 * (i + 2) ≤ q) → eb_I h' s_m_all q = eb_I h s_m_all q) (hc : ∀ q, q < 1164 → eb_I h' s_m_all (1164 * (i + 1) + q) = eb_I h s_m_all q) : PM (w.setImg i (w.va, w.now)) h' := by
  have q0 := hI s_MO (by decide) (by decide)
  have q2 := hI s_m_tape (by decide) (by decide)
  have q3 := hI s_m_rowSort (by decide) (by decide)
  have q4 := hI s_m_rowMany (by decide) (by decide)
  have hl := ok.len
  refine ⟨?_, ?_, ?_, ?_, p.va.mvB ok.va (fun q hq _ => ho _ (by omega)), p.now.mvB (fun q hq => ho _ (by omega)), (ho 52 (by omega)).trans p.size, fun j hj => ?_, ?_, ?_⟩
  · rw [q0]; exact p.fed
  · rw [q2]; exact p.text
  · rw [q0]; exact p.fault
  · rw [q0]; exact p.place
  · have hj : j < w.past.length := hj
    exact (p.past j hj).mvB (fun q hq => ho _ (Or.inl (by show 53 + 21 * (w.past.length - 1 - j) + q < _; omega)))
  · intro j hj
    have p1 := p.tray j hj
    show PMT h' j (w.tray j)
    cases hq : w.tray j with
    | none => rw [hq] at p1; unfold PMT at p1 ⊢; rw [q3]; exact p1
    | some z => rw [hq] at p1; unfold PMT at p1 ⊢; rw [q3, q4, hJ]; exact p1
  · intro j hj
    show PMI h' j (va_up w.img i (some (w.va, w.now)) j)
    by_cases e : j = i
    · subst e
      rw [show va_up w.img j (some (w.va, w.now)) j = some (w.va, w.now) by simp [va_up]]
      refine ⟨h1, p.va.mvB ok.va (fun q hq _ => by rw [Nat.zero_add]; exact hc q hq), p.now.mvB (fun q hq => ?_)⟩
      rw [Nat.add_assoc]
      exact hc (31 + q) (by omega)
    · rw [show va_up w.img i (some (w.va, w.now)) j = w.img j by simp [va_up, e]]
      have p1 := p.img j hj
      cases hq : w.img j with
      | none => rw [hq] at p1; unfold PMI at p1 ⊢; rw [hs j e]; exact p1
      | some z =>
        rw [hq] at p1
        unfold PMI at p1 ⊢
        rw [hs j e]
        exact ⟨p1.1, p1.2.1.mvB (ok.img j z hj hq).1 (fun q hq _ => ho _ (by omega)), p1.2.2.mvB (fun q hq => ho _ (by omega))⟩
theorem eb_okW.setImg {w : eb_Wo} (p : eb_okW w) (i : Nat) : eb_okW (w.setImg i (w.va, w.now)) := by
  refine ⟨p.fed, p.text, p.va, p.now, p.len, p.past, p.tray, fun j t hj e => ?_⟩
  have e : va_up w.img i (some (w.va, w.now)) j = some t := e
  by_cases z : j = i
  · rw [show va_up w.img i (some (w.va, w.now)) j = some (w.va, w.now) by simp [va_up, z]] at e
    cases e
    exact ⟨p.va, p.now⟩
  · rw [show va_up w.img i (some (w.va, w.now)) j = w.img j by simp [va_up, z]] at e
    exact p.img j t hj e
end EBIMAGE
