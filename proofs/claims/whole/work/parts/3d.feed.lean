section EBFEED
/-- a byte of a number, as the class's text keeps it -/
def eb_by (x : Int32) (s : Nat) : Int32 := (((x.toUInt32 >>> ((nI s).toUInt32 &&& Int32.toUInt32 31)).toInt32).toInt8.toInt32).toInt8.toInt32
theorem X_add_s {d : Nat} {h0 g : eb_H} {Q : Option Value → eb_H → Prop} (x : Int32) (s f : Nat) (kf : eb_I g s_tape 1 = nI f) (hf : f < 900) (hs : s ≤ 24) (ko : eb_KO g) (w : eb_Sn d m_X7_add h0 3 [(0, .ref s_tape), (1, .int x), (2, .int (nI s + (-8)))] [] (eb_sI (eb_sI g s_tape_text f (eb_by x s)) s_tape 1 (nI (f + 1))) Q) : eb_Sn d m_X7_add h0 3 [(0, .ref s_tape), (1, .int x), (2, .int (nI s))] [] g Q := by
  have ef : (nI f).toNatClampNeg = f := by
    rw [eb_tnc, nI_toInt (by omega)]; omega
  refine b_X7_add_3 x (nI s) ko ⟨fun c => ?_, fun _ => ⟨fun c => ?_, fun _ => ⟨fun c => ?_, fun _ => ⟨?_, ?_⟩⟩⟩⟩
  · exfalso
    rw [eb_i32, eb_z32, nI_toInt (by omega)] at c
    omega
  · exfalso
    rw [kf, eb_i32, eb_z32, nI_toInt (by omega)] at c
    omega
  · exfalso
    rw [kf, eb_i32e, nI_toInt (by omega), show (900 : Int32).toInt = 900 by decide] at c
    omega
  · rw [kf]; exact vp_in_nI hf (by omega)
  · rw [eb_I_sIn (show s_tape ≠ s_tape_text by decide), kf, ef, show nI f + 1 = nI (f + 1) from nI_add f 1]
    exact w
theorem C_add {d : Nat} {h : eb_H} {Q : Option Value → eb_H → Prop} (x : Int32) (f : Nat) (kf : eb_I h s_tape 1 = nI f) (hf : f + 4 ≤ 900) (ko : eb_KO h) (w : ∀ h', eb_same (fun c => c ≠ s_tape ∧ c ≠ s_tape_text) h h' → eb_nz h h' → (∀ j, j ≠ 1 → eb_I h' s_tape j = eb_I h s_tape j) → eb_I h' s_tape 1 = nI (f + 4) → (∀ j, eb_I h' s_tape_text j = if j = f + 3 then eb_by x 0 else if j = f + 2 then eb_by x 8 else if j = f + 1 then eb_by x 16 else if j = f then eb_by x 24 else eb_I h s_tape_text j) → Q none h') : eb_Ct d 66 [.ref s_tape, .int x] h Q := by
  refine T_X7_add x ko ?_
  refine X_add_s x 24 f kf (by omega) (by omega) ko ?_
  refine X_add_s x 16 (f + 1) eb_I_sI' (by omega) (by omega) ko ?_
  refine X_add_s x 8 (f + 2) eb_I_sI' (by omega) (by omega) ko ?_
  refine X_add_s x 0 (f + 3) eb_I_sI' (by omega) (by omega) ko ?_
  refine b_X7_add_3 x _ ko ⟨fun _ => w _ ?_ ⟨rfl, rfl, rfl, rfl, rfl⟩ ?_ eb_I_sI' ?_, fun c => absurd (by decide) c⟩
  · have a : ¬ (fun c => c ≠ s_tape ∧ c ≠ s_tape_text) s_tape := fun z => z.1 rfl
    have b : ¬ (fun c => c ≠ s_tape ∧ c ≠ s_tape_text) s_tape_text := fun z => z.2 rfl
    exact (((((((eb_same.rfl.sI b).sI a).sI b).sI a).sI b).sI a).sI b).sI a
  · intro j hj
    have ne : s_tape ≠ s_tape_text := by decide
    rw [eb_I_sI, if_neg hj, eb_I_sIn ne, eb_I_sI, if_neg hj, eb_I_sIn ne, eb_I_sI, if_neg hj, eb_I_sIn ne, eb_I_sI, if_neg hj, eb_I_sIn ne]
  · intro j
    have ne : s_tape_text ≠ s_tape := by decide
    rw [eb_I_sIn ne, eb_I_sI, eb_I_sIn ne, eb_I_sI, eb_I_sIn ne, eb_I_sI, eb_I_sIn ne, eb_I_sI]
end EBFEED
