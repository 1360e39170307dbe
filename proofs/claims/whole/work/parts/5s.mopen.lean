section EBMOPEN
variable {L : Nat} {xs : Nat → Int32}
def ee_D0 : ee_D := (fun j => if j = 3 then 3 else if j = 2 then 1 else if j = 1 then 1 else 0, 0, none, none)
theorem M_plainL {d : Nat} {h0 : eb_H} {Q : Option Value → eb_H → Prop} : ∀ (k i : Nat) (h : eb_H), i + k = 1164 → eb_KO h → (∀ j, j < i → eb_I h s_m_fresh j = 0) → (∀ h', ec_fr (fun c => c = s_m_fresh) h h' → (∀ j, j < 1164 → eb_I h' s_m_fresh j = ee_D0.1 j) → Q none h') → eb_Sn d m_X11_plain h0 2 [(0, .ref s_m_fresh), (1, .int (nI i))] [] h Q
  | 0, i, h, hi, ko, z, q => by
    have c1 : (1 : Int32).toNatClampNeg = 1 := by decide
    have c2 : (2 : Int32).toNatClampNeg = 2 := by decide
    have c3 : (3 : Int32).toNatClampNeg = 3 := by decide
    refine b_X11_plain_2 (d := d) s_m_fresh _ (by decide) ko ⟨fun _ => ⟨vp_in_nI (n := 1) (N := eb_ln s_m_fresh) (by decide) (by decide), vp_in_nI (n := 2) (N := eb_ln s_m_fresh) (by decide) (by decide), vp_in_nI (n := 3) (N := eb_ln s_m_fresh) (by decide) (by decide), ?_⟩, fun u => absurd (nI_le (a := 1164) (b := i) (by omega) (by omega)) u⟩
    rw [c1, c2, c3]
    refine q _ ((((ec_fr.rfl (P := fun c => c = s_m_fresh)).sI (Eq.refl _)).sI (Eq.refl _)).sI (Eq.refl _)) (fun j hj => ?_)
    rw [eb_I_sI, eb_I_sI, eb_I_sI, z j (by omega)]
    rfl
  | k + 1, i, h, hi, ko, z, q => by
    refine b_X11_plain_2 (d := d) s_m_fresh _ (by decide) ko ⟨fun u => absurd u (nI_ge (a := i) (b := 1164) (by omega) (by omega)), fun _ => ⟨vp_in_nI (show i < eb_ln s_m_fresh by show i < 1164; omega) (by decide), ?_⟩⟩
    rw [eb_cln (n := i) (by omega), nI_1]
    have F1 : ec_fr (fun c => c = s_m_fresh) h (eb_sI h s_m_fresh i 0) := ec_fr.rfl.sI rfl
    refine M_plainL k (i + 1) _ (by omega) (F1.ko ko) (fun j hj => ?_) (fun h' F' e => q h' (F1.trans F') e)
    rw [eb_I_sI]
    by_cases y : j = i
    · rw [if_pos y]
    · rw [if_neg y]
      exact z j (by omega)
theorem M_plain {d : Nat} {h : eb_H} {Q : Option Value → eb_H → Prop} (ko : eb_KO h) (q : ∀ h', ec_fr (fun c => c = s_m_fresh) h h' → (∀ j, j < 1164 → eb_I h' s_m_fresh j = ee_D0.1 j) → Q none h') : eb_Ct d 158 [.ref s_m_fresh] h Q :=
  T_X11_plain s_m_fresh (by decide) ko (M_plainL 1164 0 h (by omega) ko (fun j hj => absurd hj (by omega)) q)
theorem ee_RF0 {F : Nat → Int32} (h : ∀ j, j < 1164 → F j = ee_D0.1 j) : ee_RF F ee_D0 := ⟨fun j a _ => h j (by omega), h 263 (by omega), h 5 (by omega), h 6 (by omega)⟩
end EBMOPEN
