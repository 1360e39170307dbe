section EBTRAY
theorem eb_J_sJ {h : eb_H} {i k j : Nat} {v : Int64} : eb_J (eb_sJ h i k v) i j = if j = k then v else eb_J h i j := by
  simp [eb_J, eb_sJ, eb_rJ, va_up, vp_updL]
theorem eb_I_sJ {h : eb_H} {i k : Nat} {v : Int64} : eb_I (eb_sJ h i k v) = eb_I h := rfl
/-- Arrays.fill of longs -/
theorem C_fillJ_l {d : Nat} {h0 : eb_H} {Q : Option Value → eb_H → Prop} (a : Nat) (x : Int64) (ka : eb_kd a = 14) : ∀ (m j : Nat) (g : eb_H), j + m = eb_ln a → eb_KO g → (∀ i, i < j → eb_J g a i = x) → (∀ g', eb_same (fun c => c ≠ a) g g' → eb_nz g g' → (∀ i, i < eb_ln a → eb_J g' a i = x) → Q none g') → eb_Sn d m_J7_fill_d0a16 h0 6 [(0, .ref a), (1, .long x), (3, .int (nI j)), (4, .int (nI (eb_ln a)))] [] g Q := by
  have hl : eb_ln a < 16384 := by unfold eb_ln; omega
  intro m
  induction m with
  | zero =>
    intro j g hj ko hf w
    refine b_J7_fill_d0a16_6 a x _ _ ka ko ⟨fun _ => w g eb_same.rfl eb_nz.rfl (fun i hi => hf i (by omega)), fun c => ?_⟩
    exfalso
    apply c
    rw [nI_leI (by omega) (by omega)]
    omega
  | succ m ih =>
    intro j g hj ko hf w
    have ej : (nI j).toNatClampNeg = j := by
      rw [eb_tnc, nI_toInt (by omega)]; omega
    refine b_J7_fill_d0a16_6 a x _ _ ka ko ⟨fun c => ?_, fun _ => ⟨vp_in_nI (by omega) (by omega), ?_⟩⟩
    · exfalso
      rw [nI_leI (by omega) (by omega)] at c
      omega
    · rw [show nI j + 1 = nI (j + 1) from nI_add j 1, ej]
      refine ih (j + 1) _ (by omega) ko ?_ ?_
      · intro i hi
        rw [eb_J_sJ]
        by_cases e : i = j
        · rw [if_pos e]
        · rw [if_neg e]; exact hf i (by omega)
      · intro g' s1 s2 s3
        exact w g' ((eb_same.rfl.sJ (fun z => z rfl)).trans s1) (eb_nz.trans ⟨rfl, rfl, rfl, rfl, rfl⟩ s2) s3
theorem C_fillJ {d : Nat} {h : eb_H} {Q : Option Value → eb_H → Prop} (a : Nat) (x : Int64) (ka : eb_kd a = 14) (ko : eb_KO h) (w : ∀ g', eb_same (fun c => c ≠ a) h g' → eb_nz h g' → (∀ i, i < eb_ln a → eb_J g' a i = x) → Q none g') : eb_Ct d 300 [.ref a, .long x] h Q :=
  T_J7_fill_d0a16 a x ka ko (C_fillJ_l a x ka (eb_ln a) 0 h (by omega) ko (fun i hi => absurd hi (by omega)) w)
/-- how a tray keeps a number -/
def eb_cut (s : Int32) (x : Int64) : Int64 := if s = 0 then x.toInt32.toInt8.toInt32.toInt64 else if s = 1 then x.toInt32.toInt16.toInt32.toInt64 else if s = 2 then x.toInt32.toInt64 else x
theorem C_cut {d : Nat} {h : eb_H} {Q : Option Value → eb_H → Prop} (a : Nat) (x : Int64) (ka : eb_kd a = 8) (ko : eb_KO h) (w : Q (some (.long (eb_cut (eb_I h a 1) x))) h) : eb_Ct d 78 [.ref a, .long x] h Q := by
  unfold eb_cut at w
  refine T_X8_cut a x ka ko ⟨fun c => ?_, fun c => ?_, fun c => ?_, fun c0 c1 c2 => ?_⟩
  · rw [if_pos c] at w; exact w
  · rw [c, if_neg (by decide), if_pos rfl] at w; exact w
  · rw [c, if_neg (by decide), if_neg (by decide), if_pos rfl] at w; exact w
  · rw [if_neg c0, if_neg c1, if_neg c2] at w; exact w
theorem eb_4i {x y : Int32} (hx : 0 ≤ x.toInt ∧ x.toInt < 4) (hy : 0 ≤ y.toInt ∧ y.toInt < 40) : (40 : Int32) * x + y = nI (40 * x.toInt.toNat + y.toInt.toNat) := by
  have e1 := eb_ofn hx.1
  have e2 := eb_ofn hy.1
  generalize x.toInt.toNat = a at *
  generalize y.toInt.toNat = b at *
  rw [e1, e2]
  show nI 40 * nI a + nI b = _
  rw [show nI 40 * nI a = nI (40 * a) from (Int32.ofNat_mul 40 a).symm, nI_add]
theorem PM.setTray {w : eb_Wo} {h h' : eb_H} (p : PM w h) (ok : eb_okW w) {i : Nat} (hi : i < 4) (t : eb_Ty) (hI : ∀ c, c ≠ s_m_rowSort → c ≠ s_m_rowMany → eb_I h' c = eb_I h c) (hs : ∀ j, j ≠ i → eb_I h' s_m_rowSort j = eb_I h s_m_rowSort j ∧ eb_I h' s_m_rowMany j = eb_I h s_m_rowMany j) (hv : ∀ j, (j < 40 * i ∨ 40 * i + 40 ≤ j) → eb_J h' s_m_numbers j = eb_J h s_m_numbers j) (pt : PMT h' i (some t)) : PM (w.setTray i t) h' := by
  have q0 := hI s_MO (by decide) (by decide)
  have q1 := hI s_m_all (by decide) (by decide)
  have q2 := hI s_m_tape (by decide) (by decide)
  have q6 := hI s_m_hasImage (by decide) (by decide)
  have eS : ∀ o s, PMS h o s → PMS h' o s := fun o s z => by unfold PMS at z ⊢; rw [q1]; exact z
  have eL : ∀ B i l, PML h B i l → PML h' B i l := fun B i l z => by
    cases l with
    | none => unfold PML at z ⊢; rw [q1]; exact z
    | some cs => unfold PML at z ⊢; rw [q1]; exact z
  have eV : ∀ B V, PMV h B V → PMV h' B V := fun B V z => by
    obtain ⟨z1, z2, z3, z4, z5, z6, z7, z8, z9⟩ := z
    unfold PMV
    rw [q1]
    exact ⟨z1, z2, z3, z4, z5, eL _ _ _ z6, eL _ _ _ z7, z8, z9⟩
  refine ⟨?_, ?_, ?_, ?_, eV _ _ p.va, eS _ _ p.now, ?_, fun i hi => eS _ _ (p.past i hi), ?_, ?_⟩
  · rw [q0]; exact p.fed
  · rw [q2]; exact p.text
  · rw [q0]; exact p.fault
  · rw [q0]; exact p.place
  · rw [q1]; exact p.size
  · intro j hj
    show PMT h' j (va_up w.tray i (some t) j)
    by_cases e : j = i
    · subst e
      rw [show va_up w.tray j (some t) j = some t by simp [va_up]]
      exact pt
    · rw [show va_up w.tray i (some t) j = w.tray j by simp [va_up, e]]
      have p1 := p.tray j hj
      obtain ⟨g1, g2⟩ := hs j e
      cases hq : w.tray j with
      | none => rw [hq] at p1; unfold PMT at p1 ⊢; rw [g1]; exact p1
      | some z =>
        rw [hq] at p1
        unfold PMT at p1 ⊢
        rw [g1, g2]
        refine ⟨p1.1, p1.2.1, fun m hm hz => ?_⟩
        rw [hv _ (by omega)]
        exact p1.2.2 m hm hz
  · intro j hj
    have p1 := p.img j hj
    show PMI h' j (w.img j)
    cases hq : w.img j with
    | none => rw [hq] at p1; unfold PMI at p1 ⊢; rw [q6]; exact p1
    | some z =>
      rw [hq] at p1
      unfold PMI at p1 ⊢
      rw [q6]
      exact ⟨p1.1, eV _ _ p1.2.1, eS _ _ p1.2.2⟩
theorem eb_okW.setTray {w : eb_Wo} (p : eb_okW w) (i : Nat) (t : eb_Ty) (ht : (0 ≤ t.sort.toInt ∧ t.sort.toInt ≤ 3) ∧ 0 ≤ t.size.toInt ∧ t.size.toInt ≤ 40) : eb_okW (w.setTray i t) := by
  refine ⟨p.fed, p.text, p.va, p.now, p.len, p.past, fun j t' hj e => ?_, p.img⟩
  have e : va_up w.tray i (some t) j = some t' := e
  by_cases z : j = i
  · rw [show va_up w.tray i (some t) j = some t by simp [va_up, z]] at e
    cases e
    exact ht
  · rw [show va_up w.tray i (some t) j = w.tray j by simp [va_up, z]] at e
    exact p.tray j t' hj e
end EBTRAY
