section EBMOPN
variable {L : Nat} {xs : Nat → Int32}
/-- the opening line -/
def ee_opn (tx : Nat → Nat) (n : Nat) : ee_R := if ee_k tx n 0 = 0 then ee_nb tx n (ee_e tx n 0) 1 4 ee_D0 (fun a p2 => ee_nb tx n p2 1 4 ee_D0 (fun b p3 => if ee_k tx n p3 = 1 then ee_nb tx n (ee_e tx n p3) 1 6 ee_D0 (fun c p4 => ee_end tx n p4 (ee_set (ee_set (ee_set ee_D0 1 (nI a)) 2 (nI b)) 3 (nI c))) else (p3, some (ee_fa tx n p3 2), ee_D0))) else (0, some (ee_fa tx n 0 2), ee_D0)
theorem M_eatR {d : Nat} {h : eb_H} {Q : Option Value → eb_H → Prop} {tx : Nat → Nat} {n p : Nat} {D : ee_D} (ht : ∀ j, j < n → tx j < 256) (hn : n ≤ 900) (m : ee_MR tx n h p D) (c : Nat) (hc : c < 100) (ko : eb_KO h) (q1 : ee_k tx n p = c → ∀ h', ee_fx h h' → eb_KO h' → ee_MR tx n h' (ee_e tx n p) D → Q (some (.int 1)) h') (q0 : ee_k tx n p ≠ c → Q (some (.int 0)) h) : eb_Ct (d + 6) 167 [.ref s_MO, .int (nI c)] h Q := by
  obtain ⟨m1, m2, m3, m4, m5⟩ := m
  obtain ⟨e1, e2, e3, e4⟩ := ee_e_le tx hn m5
  exact M_eat1 (d := d) ht hn m5 m1 m2 (ee_k_lt tx n p) c hc ko (fun k h' F' t' => q1 k h' F'.fx (F'.1.ko ko) ⟨t', m2.fo F', by rw [F'.fresh]; exact m3, by omega, e1⟩) q0
/-- behind a fault in the opening -/
theorem M_op3 {d : Nat} {h0 h : eb_H} {Q : Option Value → eb_H → Prop} {y : Int32 × Int32} (w : ee_MW h (some y)) (x1 x2 : Int32) (j : Nat) (ko : eb_KO h) (K : ∀ h', ee_fx h h' → eb_KO h' → ee_MW h' (some y) → ee_V d h0 Q h') : eb_Ct (d + 67) 168 [.ref s_MO, .int x1, .int x2] h (fun r h24 => ∃ y25, r = some (.int y25) ∧ eb_KO h24 ∧ eb_Ct (d + 67) 187 [.ref s_MO] (eb_sI h24 s_m_fresh j y25) (fun r h27 => r = none ∧ eb_KO h27 ∧ eb_Sn (d + 68) m_X11_valley h0 120 [(0, .ref s_MO)] [] h27 Q)) :=
  M_tk0 (d := d + 66) w x1 x2 ko (fun v => ⟨_, rfl, ko, M_end0 (d := d + 65) w.fs (ee_fx.rfl.fs.1.ko ko) (fun h' F' k' w' => ⟨rfl, k', K h' (ee_fx.rfl.fs.trans F') k' w'⟩)⟩)
end EBMOPN
