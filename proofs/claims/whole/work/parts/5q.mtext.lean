section EBMTEXT
variable {L : Nat} {xs : Nat → Int32}
def ee_rb (r : ee_R) (k : Nat → ee_D → ee_R) : ee_R := match r with
  | (p, some y, D) => (p, some y, D)
  | (p, none, D) => k p D
theorem ee_rb_f {r : ee_R} {k : Nat → ee_D → ee_R} {y : Int32 × Int32} (h : r.2.1 = some y) : (ee_rb r k).2.1 = some y := by
  obtain ⟨p, F, D⟩ := r
  have h : F = some y := h
  subst h
  rfl
theorem ee_rb_n {r : ee_R} {k : Nat → ee_D → ee_R} (h : r.2.1 = none) : ee_rb r k = k r.1 r.2.2 := by
  obtain ⟨p, F, D⟩ := r
  have h : F = none := h
  subst h
  rfl
/-- lines, till the text ends -/
def ee_lns (tx : Nat → Nat) (n a b c : Nat) : Nat → Nat → ee_D → ee_R
  | 0, p, D => (p, some (9, 9), D)
  | f + 1, p, D => if ee_k tx n p = 24 then (p, none, D) else ee_rb (ee_line tx n p a b c (D.1 4).toNatClampNeg D) (fun p1 D1 => ee_rb (ee_end tx n p1 D1) (fun p2 D2 => ee_lns tx n a b c f p2 D2))
theorem ee_DW.s {D : ee_D} {a b c s : Nat} (w : ee_DW D a b c s) : (D.1 4).toNatClampNeg = s := by
  rw [w.2.2.2.1]
  exact eb_cln (by have := w.2.2.2.2; omega)
theorem ee_end_n {tx : Nat → Nat} {n p : Nat} {D : ee_D} (h : (ee_end tx n p D).2.1 = none) : ee_k tx n p = 30 ∧ ee_end tx n p D = (ee_e tx n p, none, ee_set D 0 (D.1 0 + 1)) := by
  unfold ee_end at h ⊢
  by_cases z : ee_k tx n p = 30
  · rw [if_pos z]
    exact ⟨z, rfl⟩
  · rw [if_neg z] at h
    cases h
def ee_V (d : Nat) (h0 : eb_H) (Q : Option Value → eb_H → Prop) (h : eb_H) : Prop := eb_Sn (d + 68) m_X11_valley h0 120 [(0, .ref s_MO)] [] h Q
theorem M_lns {d : Nat} {h0 : eb_H} {Q : Option Value → eb_H → Prop} {tx : Nat → Nat} {n a b c : Nat} (ht : ∀ j, j < n → tx j < 256) (hn : n ≤ 900) : ∀ (f p s : Nat) (D : ee_D) (h : eb_H), n - p < f → ee_DW D a b c s → ee_MR tx n h p D → eb_KO h → (∀ h', ee_fx h h' → eb_KO h' → ee_MQ tx n h' (ee_lns tx n a b c f p D) → ((ee_lns tx n a b c f p D).2.1 = none → ee_k tx n (ee_lns tx n a b c f p D).1 = 24) → ee_V d h0 Q h') → ee_V d h0 Q h
  | 0, p, s, D, h, hf, _, _, _, _ => absurd hf (by omega)
  | f + 1, p, s, D, h, hf, dw, m, ko, K => by
    have m0 := m
    obtain ⟨m1, m2, m3, m4, m5⟩ := m
    have kl := ee_k_lt tx n p
    unfold ee_lns at K
    by_cases k24 : ee_k tx n p = 24
    · rw [if_pos k24] at K
      exact K h ee_fx.rfl ko (Or.inr ⟨rfl, m0⟩) (fun _ => k24)
    · rw [if_neg k24, dw.s] at K
      have gl := ee_good_line (tx := tx) hn m5 dw
      refine b_X11_valley_120 (d := d + 67) ko ⟨fun z => absurd m2 z, fun _ => ⟨fun z => ?_, fun _ => ?_⟩⟩
      · rw [m1.2.2.2.1] at z
        exact absurd ((nI_eq (b := 24) (by omega) (by omega)).mp z) k24
      · refine M_line (d := d) ht hn m0 dw ko (fun h1 F1 k1 mq1 => ⟨rfl, k1, ?_⟩)
        rcases mq1 with ⟨y, e1, w1⟩ | ⟨e1, M1⟩
        · refine M_end0 (d := d + 65) w1 k1 (fun h2 F2 k2 w2 => ⟨rfl, k2, K h2 (F1.trans F2) k2 (Or.inl ⟨y, ee_rb_f e1, w2⟩) (fun u => ?_)⟩)
          rw [ee_rb_f e1] at u
          cases u
        · rw [ee_rb_n e1] at K
          obtain ⟨g1, g2, s', dw'⟩ := gl e1
          generalize (ee_line tx n p a b c s D).1 = p1 at K M1 g1 g2
          generalize (ee_line tx n p a b c s D).2.2 = D1 at K M1 dw'
          refine M_end (d := d + 60) ht hn M1 k1 (fun h2 F2 k2 mq2 => ⟨rfl, k2, ?_⟩)
          rcases mq2 with ⟨y, e2, w2⟩ | ⟨e2, M2⟩
          · refine K h2 (F1.trans F2) k2 (Or.inl ⟨y, ee_rb_f e2, w2⟩) (fun u => ?_)
            rw [ee_rb_f e2] at u
            cases u
          · rw [ee_rb_n e2] at K
            obtain ⟨k30, ee⟩ := ee_end_n e2
            rw [ee] at K M2
            obtain ⟨x1, x2⟩ := ee_gt hn g2 (show ee_k tx n p1 ≠ 24 by omega)
            exact M_lns ht hn f (ee_e tx n p1) s' _ h2 (by omega) (dw'.set (Or.inr rfl)) M2 k2 (fun h' F' k' mq kk => K h' ((F1.trans F2).trans F') k' mq kk)
end EBMTEXT
