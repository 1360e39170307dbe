section EBMEXIT
variable {L : Nat} {xs : Nat → Int32}
theorem M_copy {d : Nat} {h0 : eb_H} {Q : Option Value → eb_H → Prop} : ∀ (k i : Nat) (h : eb_H), i + k = 1164 → eb_KO h → (∀ h', ec_fr (fun c => c = s_m_all) h h' → (∀ j, i ≤ j → j < 1164 → eb_I h' s_m_all j = eb_I h s_m_fresh j) → (∀ j, ¬ (i ≤ j ∧ j < 1164) → eb_I h' s_m_all j = eb_I h s_m_all j) → Q (some (.int (eb_I h' s_m_all 0))) h') → eb_Sn (d + 1) m_X11_valley h0 191 [(0, .ref s_MO), (2, .int (nI i))] [] h Q
  | 0, i, h, hi, ko, q => by
    have c0 : (0 : Int32).toNatClampNeg = 0 := by decide
    refine b_X11_valley_191 (d := d) _ ko ⟨fun _ => ?_, fun z => absurd (nI_le (a := 1164) (b := i) (by omega) (by omega)) z⟩
    rw [c0]
    exact q h ec_fr.rfl (fun j a1 a2 => absurd a2 (by omega)) (fun _ _ => rfl)
  | k + 1, i, h, hi, ko, q => by
    refine b_X11_valley_191 (d := d) _ ko ⟨fun z => absurd z (nI_ge (a := i) (b := 1164) (by omega) (by omega)), fun _ => ⟨vp_in_nI (by omega) (by omega), vp_in_nI (by omega) (by omega), ?_⟩⟩
    rw [eb_cln (n := i) (by omega), nI_1]
    have F1 : ec_fr (fun c => c = s_m_all) h (eb_sI h s_m_all i (eb_I h s_m_fresh i)) := ec_fr.rfl.sI rfl
    refine M_copy k (i + 1) _ (by omega) (F1.ko ko) (fun h' F' e1 e2 => q h' (F1.trans F') (fun j a1 a2 => ?_) (fun j a => ?_))
    · by_cases z : j = i
      · rw [e2 j (by omega), eb_I_sI, if_pos z, z]
      · rw [e1 j (by omega) a2, eb_I_sIn (by decide)]
    · rw [e2 j (by omega), eb_I_sI, if_neg (by omega)]
/-- the text is read: a fault -/
theorem M_exf {d : Nat} {h0 h : eb_H} {Q : Option Value → eb_H → Prop} {y : Int32 × Int32} (w : ee_MW h (some y)) (ko : eb_KO h) (q : Q (some (.int ((-30) - y.1))) (eb_sI (eb_sI h s_MO 13 y.1) s_MO 14 y.2)) : ee_V d h0 Q h := by
  have nz : ¬ eb_I h s_MO 11 = 0 := fun z => w.2.2 (w.1.symm.trans z)
  have e1 : eb_I (eb_sI h s_MO 13 (eb_I h s_MO 11)) s_MO 11 = eb_I h s_MO 11 := by rw [eb_I_sI, if_neg (by decide)]
  have e2 : eb_I (eb_sI h s_MO 13 (eb_I h s_MO 11)) s_MO 12 = eb_I h s_MO 12 := by rw [eb_I_sI, if_neg (by decide)]
  refine b_X11_valley_120 (d := d + 67) ko ⟨fun _ => ?_, fun z => absurd z nz⟩
  rw [e1, if_neg nz, e2]
  have e3 : eb_I (eb_sI (eb_sI h s_MO 13 (eb_I h s_MO 11)) s_MO 14 (eb_I h s_MO 12)) s_MO 11 = eb_I h s_MO 11 := by rw [eb_I_sI, if_neg (by decide), e1]
  rw [e3]
  refine ⟨fun z => absurd z nz, fun _ => ?_⟩
  rw [w.1, w.2.1]
  exact q
/-- the text is read: none -/
theorem M_exo {d : Nat} {h0 h : eb_H} {Q : Option Value → eb_H → Prop} (w : ee_MW h none) (k24 : eb_I h s_MO 9 = 24) (ko : eb_KO h) (q : ∀ h', ec_fr (fun c => c = s_MO ∨ c = s_m_all) h h' → (∀ j, j ≠ 13 → j ≠ 14 → eb_I h' s_MO j = eb_I h s_MO j) → eb_I h' s_MO 13 = 0 → eb_I h' s_MO 14 = -1 → (∀ j, j < 1164 → eb_I h' s_m_all j = eb_I h s_m_fresh j) → (∀ j, 1164 ≤ j → eb_I h' s_m_all j = eb_I h s_m_all j) → Q (some (.int (eb_I h s_m_fresh 0))) h') : ee_V d h0 Q h := by
  have w : eb_I h s_MO 11 = 0 := w
  have e1 : eb_I (eb_sI h s_MO 13 (eb_I h s_MO 11)) s_MO 11 = 0 := by rw [eb_I_sI, if_neg (by decide)]; exact w
  refine b_X11_valley_120 (d := d + 67) ko ⟨fun z => absurd w z, fun _ => ⟨fun _ => ?_, fun z => absurd k24 z⟩⟩
  rw [e1, if_pos rfl]
  have e3 : eb_I (eb_sI (eb_sI h s_MO 13 (eb_I h s_MO 11)) s_MO 14 (-1)) s_MO 11 = 0 := by rw [eb_I_sI, if_neg (by decide), e1]
  rw [e3]
  refine ⟨fun _ => ?_, fun z => absurd rfl z⟩
  rw [w]
  have F1 : ec_fr (fun c => c = s_MO ∨ c = s_m_all) h (eb_sI (eb_sI h s_MO 13 0) s_MO 14 (-1)) := (ec_fr.rfl.sI (Or.inl rfl)).sI (Or.inl rfl)
  refine M_copy (d := d + 67) 1164 0 _ (by omega) (F1.ko ko) (fun h' F' c1 c2 => ?_)
  have em : eb_I h' s_MO = eb_I (eb_sI (eb_sI h s_MO 13 0) s_MO 14 (-1)) s_MO := F'.2.2 _ (by decide)
  have ef : ∀ j, eb_I (eb_sI (eb_sI h s_MO 13 0) s_MO 14 (-1)) s_m_fresh j = eb_I h s_m_fresh j := fun j => by rw [eb_I_sIn (by decide), eb_I_sIn (by decide)]
  rw [c1 0 (by omega) (by omega), ef]
  refine q h' (F1.trans (F'.weak (fun c z => Or.inr z))) (fun j a1 a2 => ?_) ?_ ?_ (fun j hj => ?_) (fun j hj => ?_)
  · rw [em, eb_I_sI, if_neg a2, eb_I_sI, if_neg a1]
  · rw [em, eb_I_sI, if_neg (by decide), eb_I_sI, if_pos rfl]
  · rw [em, eb_I_sI, if_pos rfl]
  · rw [c1 j (by omega) hj, ef]
  · rw [c2 j (by omega), eb_I_sIn (by decide), eb_I_sIn (by decide)]
end EBMEXIT
