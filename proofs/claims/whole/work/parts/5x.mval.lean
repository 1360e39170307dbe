section EBMVAX
variable {L : Nat} {xs : Nat → Int32}
/-- a text, pure -/
def ee_text (tx : Nat → Nat) (n : Nat) : ee_R := ee_rb (ee_opn tx n) (fun p D => ee_lns tx n (D.1 1).toNatClampNeg (D.1 2).toNatClampNeg (D.1 3).toNatClampNeg 1000 p D)
theorem ee_DW.abc {D : ee_D} {a b c s : Nat} (w : ee_DW D a b c s) : (D.1 1).toNatClampNeg = a ∧ (D.1 2).toNatClampNeg = b ∧ (D.1 3).toNatClampNeg = c := by
  obtain ⟨w1, w2, w3, w4⟩ := w
  rw [w1.1, w2.1, w3.1]
  exact ⟨eb_cln (by omega), eb_cln (by omega), eb_cln (by omega)⟩
theorem M_text {d : Nat} {h : eb_H} {Q : Option Value → eb_H → Prop} {tx : Nat → Nat} {n fed : Nat} (ht : ∀ j, j < n → tx j < 256) (hn : n ≤ fed) (h9 : fed ≤ 900) (e5 : eb_I h s_MO 5 = nI fed) (et : ∀ j, j < n → eb_I h s_m_tape j = nI (tx j)) (ko : eb_KO h) (K : ∀ h', ee_fv h h' → eb_I h' s_MO 5 = 0 → eb_I h' s_MO 0 = 0 → eb_KO h' → ee_MQ tx n h' (ee_text tx n) → ((ee_text tx n).2.1 = none → eb_I h' s_MO 9 = 24) → ee_V d h Q h') : eb_Ct (d + 68) 188 [.ref s_MO, .int (nI n)] h Q := by
  have n9 : n ≤ 900 := by omega
  refine M_vopn (d := d) ht hn h9 e5 et ko (fun h1 F1 a5 a0 k1 mq => ?_)
  unfold ee_text at K
  rcases mq with ⟨y, e1, w1⟩ | ⟨e1, M1⟩
  · refine K h1 F1 a5 a0 k1 (Or.inl ⟨y, ee_rb_f e1, w1⟩) (fun u => ?_)
    rw [ee_rb_f e1] at u
    cases u
  · obtain ⟨pn, a, b, c, dw⟩ := ee_opn_dw n9 e1
    obtain ⟨x1, x2, x3⟩ := dw.abc
    rw [ee_rb_n e1, x1, x2, x3] at K
    refine M_lns (a := a) (b := b) (c := c) ht n9 1000 _ 0 _ h1 (by omega) dw M1 k1 (fun h2 F2 k2 mq2 k24 => K h2 ⟨F1.1.trans F2.1, fun j b0 b5 b6 b7 b8 b9 b10 b11 b12 b15 => ?_⟩ ?_ ?_ k2 mq2 (fun u => ?_))
    · rw [F2.2 j b6 b7 b9 b10 b11 b12 b15, F1.2 j b0 b5 b6 b7 b8 b9 b10 b11 b12 b15]
    · rw [F2.2 5 (by decide) (by decide) (by decide) (by decide) (by decide) (by decide) (by decide)]; exact a5
    · rw [F2.2 0 (by decide) (by decide) (by decide) (by decide) (by decide) (by decide) (by decide)]; exact a0
    · rcases mq2 with ⟨y, e2, _⟩ | ⟨_, M2⟩
      · rw [e2] at u
        cases u
      · rw [M2.1.2.2.2.1, k24 u]
        rfl
end EBMVAX
