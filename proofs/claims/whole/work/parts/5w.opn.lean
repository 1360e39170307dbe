section EBOPN
variable {L : Nat} {xs : Nat → Int32}
theorem ee_nb_n {tx : Nat → Nat} {n p lo hi : Nat} {D : ee_D} {k : Nat → Nat → ee_R} (h : (ee_nb tx n p lo hi D k).2.1 = none) : ee_ok tx n p lo hi ∧ ee_nb tx n p lo hi D k = k (ee_v tx n p) (ee_e tx n p) := by
  unfold ee_nb at h ⊢
  by_cases z : ee_ok tx n p lo hi
  · rw [if_pos z]
    exact ⟨z, rfl⟩
  · rw [if_neg z] at h
    cases h
theorem ee_opn_dw {tx : Nat → Nat} {n : Nat} (hn : n ≤ 900) (h : (ee_opn tx n).2.1 = none) : (ee_opn tx n).1 ≤ n ∧ ∃ a b c, ee_DW (ee_opn tx n).2.2 a b c 0 := by
  unfold ee_opn at h ⊢
  by_cases k0 : ee_k tx n 0 = 0
  · rw [if_pos k0] at h ⊢
    obtain ⟨o1, e1⟩ := ee_nb_n h
    rw [e1] at h ⊢
    try dsimp only at h ⊢
    obtain ⟨o2, e2⟩ := ee_nb_n h
    rw [e2] at h ⊢
    try dsimp only at h ⊢
    have q0 := (ee_e_le tx hn (Nat.zero_le n)).1
    have q1 := (ee_e_le tx hn q0).1
    have q2 := (ee_e_le tx hn q1).1
    generalize ee_e tx n (ee_e tx n (ee_e tx n 0)) = p3 at q2 h ⊢
    by_cases k1 : ee_k tx n p3 = 1
    · rw [if_pos k1] at h ⊢
      obtain ⟨o3, e3⟩ := ee_nb_n h
      rw [e3] at h ⊢
      try dsimp only at h ⊢
      obtain ⟨k30, e4⟩ := ee_end_n h
      rw [e4]
      have q3 := (ee_e_le tx hn q2).1
      have q4 := (ee_e_le tx hn q3).1
      have q5 := (ee_e_le tx hn q4).1
      refine ⟨q5, _, _, _, ee_DW.set (j := 0) ⟨⟨rfl, o1.2⟩, ⟨rfl, o2.2⟩, ⟨rfl, o3.2⟩, rfl, by omega⟩ (Or.inr rfl)⟩
    · rw [if_neg k1] at h
      cases h
  · rw [if_neg k0] at h
    cases h
end EBOPN
