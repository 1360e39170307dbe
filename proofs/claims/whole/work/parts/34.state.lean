section EBSTATE
/-- nothing made, the script as it was, no reference changed -/
def eb_nz (h h' : eb_H) : Prop := eb_n h' = eb_n h ∧ eb_z h' = eb_z h ∧ eb_XL h' = eb_XL h ∧ eb_X h' = eb_X h ∧ eb_R h' = eb_R h
theorem eb_nz.rfl {h : eb_H} : eb_nz h h := ⟨Eq.refl _, Eq.refl _, Eq.refl _, Eq.refl _, Eq.refl _⟩
theorem eb_nz.trans {h h1 h2 : eb_H} (a : eb_nz h h1) (b : eb_nz h1 h2) : eb_nz h h2 := ⟨b.1.trans a.1, b.2.1.trans a.2.1, b.2.2.1.trans a.2.2.1, b.2.2.2.1.trans a.2.2.2.1, b.2.2.2.2.trans a.2.2.2.2⟩
theorem eb_nz.ko {h h1 : eb_H} (a : eb_nz h h1) (ko : eb_KO h) : eb_KO h1 := fun q m => by rw [a.2.2.2.2]; exact ko q m
def eb_isS (a : Nat) : Prop := eb_kd a = 6 ∧ eb_ln a = 0
theorem eb_isS.th {a : Nat} (p : eb_isS a) : eb_kd (a + 524807) = 13 ∧ eb_ln (a + 524807) = 16 := by
  unfold eb_isS eb_kd eb_ln at *
  omega
theorem eb_I_rI {h : eb_H} {i : Nat} {f : Nat → Int32} : eb_I (eb_rI h i f) i = f := by simp [eb_I, eb_rI, va_up]
theorem eb_I_rIn {h : eb_H} {i c : Nat} {f : Nat → Int32} (e : c ≠ i) : eb_I (eb_rI h i f) c = eb_I h c := by simp [eb_I, eb_rI, va_up, e]
theorem C_become {d : Nat} {h : eb_H} {Q : Option Value → eb_H → Prop} (a0 a1 : Nat) (s : eb_St) (k0 : eb_isS a0) (k1 : eb_isS a1) (ne : a1 ≠ a0) (r0 : eb_R h a0 5 = some (a0 + 524807)) (p : PXS h a1 s) (ko : eb_KO h)
    (w : ∀ h', PXS h' a0 s → eb_nz h h' → eb_same (fun c => c ≠ a0 ∧ c ≠ a0 + 524807) h h' → Q none h') : eb_Ct (d + 1) 60 [.ref a0, .ref a1] h Q := by
  obtain ⟨p1, p2, p3, p4, p5, p6, p7⟩ := p
  refine T_X6_become a0 a1 k0.1 k1.1 ko ?_
  have t0 : (0 : Int32).toNatClampNeg = 0 := by decide
  have t16 : (16 : Int32).toNatClampNeg = 16 := by decide
  have ne2 : a1 + 524807 ≠ a0 := fun z => by
    have := k1.th.1
    rw [z, k0.1] at this
    exact absurd this (by decide)
  simp only [eb_R_sI, eb_I_sIn ne, t0, t16]
  refine ⟨_, p6, k1.th.1, _, r0, k0.th.1, ?_, ?_, ?_⟩
  · rw [k1.th.2]; decide
  · rw [k0.th.2]; decide
  · have n0 : a0 ≠ a0 + 524807 := by omega
    simp only [eb_I_sIn ne2, eb_I_sIn n0.symm]
    refine w _ ?_ ⟨rfl, rfl, rfl, rfl, rfl⟩ ?_
    · refine ⟨?_, ?_, ?_, ?_, ?_, r0, ?_⟩
      · rw [eb_I_rIn n0]; simp [eb_I_sI, p1]
      · rw [eb_I_rIn n0]; simp [eb_I_sI, p2]
      · rw [eb_I_rIn n0]; simp [eb_I_sI, p3]
      · rw [eb_I_rIn n0]; simp [eb_I_sI, p4]
      · rw [eb_I_rIn n0]; simp [eb_I_sI, p5]
      · intro j hj
        rw [eb_I_rI]
        unfold va_cpy
        rw [if_pos (by omega), Nat.zero_add, Nat.sub_zero]
        exact p7 j hj
    · exact (((((eb_same.rfl.sI (fun z => z.1 rfl)).sI (fun z => z.1 rfl)).sI (fun z => z.1 rfl)).sI (fun z => z.1 rfl)).sI (fun z => z.1 rfl)).rI (fun z => z.2 rfl)
end EBSTATE
