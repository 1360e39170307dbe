section EBMVAL
variable {L : Nat} {xs : Nat → Int32}
/-- what the reference's valley changes -/
def ee_fv (h h' : eb_H) : Prop := ec_fr (fun c => c = s_MO ∨ c = s_m_fresh) h h' ∧ ∀ j, j ≠ 0 → j ≠ 5 → j ≠ 6 → j ≠ 7 → j ≠ 8 → j ≠ 9 → j ≠ 10 → j ≠ 11 → j ≠ 12 → j ≠ 15 → eb_I h' s_MO j = eb_I h s_MO j
/-- from the call to the loop of lines -/
theorem M_vopn {d : Nat} {h : eb_H} {Q : Option Value → eb_H → Prop} {tx : Nat → Nat} {n fed : Nat} (ht : ∀ j, j < n → tx j < 256) (hn : n ≤ fed) (h9 : fed ≤ 900) (e5 : eb_I h s_MO 5 = nI fed) (et : ∀ j, j < n → eb_I h s_m_tape j = nI (tx j)) (ko : eb_KO h) (K : ∀ h', ee_fv h h' → eb_I h' s_MO 5 = 0 → eb_I h' s_MO 0 = 0 → eb_KO h' → ee_MQ tx n h' (ee_opn tx n) → ee_V d h Q h') : eb_Ct (d + 68) 188 [.ref s_MO, .int (nI n)] h Q := by
  have c1 : (1 : Int32).toNatClampNeg = 1 := by decide
  have c2 : (2 : Int32).toNatClampNeg = 2 := by decide
  have c3 : (3 : Int32).toNatClampNeg = 3 := by decide
  have n9 : n ≤ 900 := by omega
  have cond : (¬ ((nI n).toInt64 < 0)) ∧ (¬ (((eb_I (eb_sI h s_MO 0 0) s_MO 5).toInt64) < (nI n).toInt64)) := by
    rw [eb_I_sI, if_neg (by decide), e5, eb_l64, eb_l64a, eb_z64, nI_toInt (by omega), nI_toInt (by omega)]
    omega
  refine T_X11_valley (d := d + 67) _ ko ⟨fun _ => ?_, fun z => absurd cond z⟩
  rw [c1, c2, c3]
  have F1 : ec_fr (fun c => c = s_MO ∨ c = s_m_fresh) h (eb_sI (eb_sI (eb_sI (eb_sI (eb_sI h s_MO 0 0) s_MO 8 (nI n)) s_MO 5 0) s_MO 7 0) s_MO 11 0) := ((((ec_fr.rfl.sI (Or.inl rfl)).sI (Or.inl rfl)).sI (Or.inl rfl)).sI (Or.inl rfl)).sI (Or.inl rfl)
  have M1 : ∀ j, eb_I (eb_sI (eb_sI (eb_sI (eb_sI (eb_sI h s_MO 0 0) s_MO 8 (nI n)) s_MO 5 0) s_MO 7 0) s_MO 11 0) s_MO j = if j = 11 then 0 else if j = 7 then 0 else if j = 5 then 0 else if j = 8 then nI n else if j = 0 then 0 else eb_I h s_MO j := fun j => by rw [eb_I_sI, eb_I_sI, eb_I_sI, eb_I_sI, eb_I_sI]
  generalize eb_sI (eb_sI (eb_sI (eb_sI (eb_sI h s_MO 0 0) s_MO 8 (nI n)) s_MO 5 0) s_MO 7 0) s_MO 11 0 = h1 at F1 M1 ⊢
  have k1 := F1.ko ko
  refine M_plain k1 (fun h2 F2 z2 => ⟨rfl, F2.ko k1, ?_⟩)
  have k2 := F2.ko k1
  have em : eb_I h2 s_MO = eb_I h1 s_MO := F2.2.2 _ (by decide)
  have X2 : ee_MX h2 tx n := ⟨fun j hj => by rw [F2.2.2 s_m_tape (by decide), F1.2.2 s_m_tape (by decide)]; exact et j hj, by rw [em, M1]; rfl⟩
  refine M_next (d := d + 62) ht n9 X2 0 (by omega) (by rw [em, M1]; rfl) k2 (fun h3 F3 t3 => ⟨rfl, F3.1.ko k2, ?_⟩)
  have k3 := F3.1.ko k2
  have m3 : ee_MR tx n h3 0 ee_D0 := by
    refine ⟨t3, ?_, by rw [F3.fresh]; exact ee_RF0 z2, Nat.le_refl _, by omega⟩
    show eb_I h3 s_MO 11 = 0
    rw [F3.2 11 (by decide) (by decide) (by decide) (by decide), em, M1]
    rfl
  have K3 : ∀ h', ee_fx h3 h' → eb_KO h' → ee_MQ tx n h' (ee_opn tx n) → ee_V d h Q h' := fun h' F' k' mq => by
    have g3 : ∀ j, j ≠ 6 → j ≠ 7 → j ≠ 9 → j ≠ 10 → j ≠ 11 → j ≠ 12 → j ≠ 15 → eb_I h' s_MO j = eb_I h1 s_MO j := fun j a b c d e f g => by rw [F'.2 j a b c d e f g, F3.2 j a b c d, em]
    refine K h' ⟨((F1.trans (F2.weak (fun c z => Or.inr z))).trans F3.fx.1).trans F'.1, fun j a0 a5 a6 a7 a8 a9 a10 a11 a12 a15 => ?_⟩ ?_ ?_ k' mq
    · rw [g3 j a6 a7 a9 a10 a11 a12 a15, M1, if_neg a11, if_neg a7, if_neg a5, if_neg a8, if_neg a0]
    · rw [g3 5 (by decide) (by decide) (by decide) (by decide) (by decide) (by decide) (by decide), M1]; rfl
    · rw [g3 0 (by decide) (by decide) (by decide) (by decide) (by decide) (by decide) (by decide), M1]; rfl
  unfold ee_opn at K3
  refine M_eatR (d := d + 61) ht n9 m3 0 (by omega) k3 (fun kk h4 F4 k4 m4 => ⟨_, rfl, k4, fun _ => ?_, fun z => absurd z (by decide)⟩) (fun kk => ⟨_, rfl, k3, fun z => absurd rfl z, fun _ => ?_⟩)
  · rw [if_pos kk] at K3
    exact M_T1 (D' := ee_D0) ht n9 m4 k4 (fun h5 F5 k5 mq => K3 h5 (F4.trans F5) k5 mq)
  · rw [if_neg kk] at K3
    exact M_fl m3.1 m3.2.1 (ee_k_lt tx n 0) 2 (by decide) 0 k3 (fun h4 F4 w4 _ => ⟨rfl, F4.1.ko k3, M_T1f w4 (F4.1.ko k3) (fun h5 F5 k5 w5 => K3 h5 (F4.fx.trans F5) k5 (Or.inl ⟨_, rfl, w5⟩))⟩)
end EBMVAL
