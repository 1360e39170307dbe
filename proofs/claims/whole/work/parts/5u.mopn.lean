section EBMOPU
variable {L : Nat} {xs : Nat → Int32}
def ee_T3 (d : Nat) (h0 : eb_H) (Q : Option Value → eb_H → Prop) (h : eb_H) : Prop := eb_Ct (d + 67) 168 [.ref s_MO, .int 1, .int 6] h (fun r h24 => ∃ y25, r = some (.int y25) ∧ eb_KO h24 ∧ eb_Ct (d + 67) 187 [.ref s_MO] (eb_sI h24 s_m_fresh 3 y25) (fun r h27 => r = none ∧ eb_KO h27 ∧ eb_Sn (d + 68) m_X11_valley h0 120 [(0, .ref s_MO)] [] h27 Q))
def ee_T2 (d : Nat) (h0 : eb_H) (Q : Option Value → eb_H → Prop) (h : eb_H) : Prop := eb_Ct (d + 67) 167 [.ref s_MO, .int 1] h (fun r h20 => ∃ y21, r = some (.int y21) ∧ eb_KO h20 ∧ ((¬ y21 = 0 → ee_T3 d h0 Q h20) ∧ (y21 = 0 → eb_Ct (d + 67) 165 [.ref s_MO, .int 2] h20 (fun r h30 => r = none ∧ eb_KO h30 ∧ ee_T3 d h0 Q h30))))
def ee_T1 (d : Nat) (h0 : eb_H) (Q : Option Value → eb_H → Prop) (h : eb_H) : Prop := eb_Ct (d + 67) 168 [.ref s_MO, .int 1, .int 4] h (fun r h14 => ∃ y15, r = some (.int y15) ∧ eb_KO h14 ∧ eb_Ct (d + 67) 168 [.ref s_MO, .int 1, .int 4] (eb_sI h14 s_m_fresh 1 y15) (fun r h17 => ∃ y18, r = some (.int y18) ∧ eb_KO h17 ∧ ee_T2 d h0 Q (eb_sI h17 s_m_fresh 2 y18)))
theorem M_T3f {d : Nat} {h0 h : eb_H} {Q : Option Value → eb_H → Prop} {y : Int32 × Int32} (w : ee_MW h (some y)) (ko : eb_KO h) (K : ∀ h', ee_fx h h' → eb_KO h' → ee_MW h' (some y) → ee_V d h0 Q h') : ee_T3 d h0 Q h := M_op3 w 1 6 3 ko K
theorem M_T2f {d : Nat} {h0 h : eb_H} {Q : Option Value → eb_H → Prop} {y : Int32 × Int32} (w : ee_MW h (some y)) (ko : eb_KO h) (K : ∀ h', ee_fx h h' → eb_KO h' → ee_MW h' (some y) → ee_V d h0 Q h') : ee_T2 d h0 Q h :=
  M_eat0 (d := d + 66) w _ ko ⟨_, rfl, ko, fun z => absurd rfl z, fun _ => M_fl0 w _ ko ⟨rfl, ko, M_T3f w ko K⟩⟩
theorem M_T1f {d : Nat} {h0 h : eb_H} {Q : Option Value → eb_H → Prop} {y : Int32 × Int32} (w : ee_MW h (some y)) (ko : eb_KO h) (K : ∀ h', ee_fx h h' → eb_KO h' → ee_MW h' (some y) → ee_V d h0 Q h') : ee_T1 d h0 Q h :=
  M_tk0 (d := d + 66) w _ _ ko (fun v => ⟨_, rfl, ko, M_tk0 (d := d + 66) w.fs _ _ (ee_fx.rfl.fs.1.ko ko) (fun v2 => ⟨_, rfl, ee_fx.rfl.fs.1.ko ko, M_T2f w.fs.fs (ee_fx.rfl.fs.fs.1.ko ko) (fun h' F' k' w' => K h' (ee_fx.rfl.fs.fs.trans F') k' w')⟩)⟩)
theorem M_T3 {d : Nat} {h0 h : eb_H} {Q : Option Value → eb_H → Prop} {tx : Nat → Nat} {n p : Nat} {D D' : ee_D} (ht : ∀ j, j < n → tx j < 256) (hn : n ≤ 900) (m : ee_MR tx n h p D) (ko : eb_KO h) (K : ∀ h', ee_fx h h' → eb_KO h' → ee_MQ tx n h' (ee_nb tx n p 1 6 D' (fun c p4 => ee_end tx n p4 (ee_set D 3 (nI c)))) → ee_V d h0 Q h') : ee_T3 d h0 Q h := by
  unfold ee_nb at K
  refine M_tkR (d := d + 61) ht hn m 1 6 (by omega) (by omega) ko (fun ok h1 F1 k1 m1 => ⟨_, rfl, k1, ?_⟩) (fun no v h1 F1 k1 w1 ef => ⟨_, rfl, k1, ?_⟩)
  · rw [if_pos ok] at K
    exact M_end (d := d + 60) ht hn (m1.set (j := 3) (by omega)) (F1.fs.1.ko ko) (fun h2 F2 k2 mq => ⟨rfl, k2, K h2 (F1.fs.trans F2) k2 mq⟩)
  · rw [if_neg no] at K
    exact M_end0 (d := d + 65) w1.fs (F1.fs.1.ko ko) (fun h2 F2 k2 w2 => ⟨rfl, k2, K h2 (F1.fs.trans F2) k2 (Or.inl ⟨_, rfl, w2⟩)⟩)
theorem M_T2 {d : Nat} {h0 h : eb_H} {Q : Option Value → eb_H → Prop} {tx : Nat → Nat} {n p : Nat} {D D' : ee_D} (ht : ∀ j, j < n → tx j < 256) (hn : n ≤ 900) (m : ee_MR tx n h p D) (ko : eb_KO h) (K : ∀ h', ee_fx h h' → eb_KO h' → ee_MQ tx n h' (if ee_k tx n p = 1 then ee_nb tx n (ee_e tx n p) 1 6 D' (fun c p4 => ee_end tx n p4 (ee_set D 3 (nI c))) else (p, some (ee_fa tx n p 2), D')) → ee_V d h0 Q h') : ee_T2 d h0 Q h := by
  refine M_eatR (d := d + 61) ht hn m 1 (by omega) ko (fun k1 h1 F1 ko1 m1 => ⟨_, rfl, ko1, fun _ => ?_, fun z => absurd z (by decide)⟩) (fun k1 => ⟨_, rfl, ko, fun z => absurd rfl z, fun _ => ?_⟩)
  · rw [if_pos k1] at K
    exact M_T3 (D' := D') ht hn m1 ko1 (fun h2 F2 k2 mq => K h2 (F1.trans F2) k2 mq)
  · rw [if_neg k1] at K
    exact M_fl m.1 m.2.1 (ee_k_lt tx n p) 2 (by decide) 0 ko (fun h1 F1 w1 _ => ⟨rfl, F1.1.ko ko, M_T3f w1 (F1.1.ko ko) (fun h2 F2 k2 w2 => K h2 (F1.fx.trans F2) k2 (Or.inl ⟨_, rfl, w2⟩))⟩)
theorem M_T1 {d : Nat} {h0 h : eb_H} {Q : Option Value → eb_H → Prop} {tx : Nat → Nat} {n p : Nat} {D D' : ee_D} (ht : ∀ j, j < n → tx j < 256) (hn : n ≤ 900) (m : ee_MR tx n h p D) (ko : eb_KO h) (K : ∀ h', ee_fx h h' → eb_KO h' → ee_MQ tx n h' (ee_nb tx n p 1 4 D' (fun a p2 => ee_nb tx n p2 1 4 D' (fun b p3 => if ee_k tx n p3 = 1 then ee_nb tx n (ee_e tx n p3) 1 6 D' (fun c p4 => ee_end tx n p4 (ee_set (ee_set (ee_set D 1 (nI a)) 2 (nI b)) 3 (nI c))) else (p3, some (ee_fa tx n p3 2), D')))) → ee_V d h0 Q h') : ee_T1 d h0 Q h := by
  unfold ee_nb at K
  refine M_tkR (d := d + 61) ht hn m 1 4 (by omega) (by omega) ko (fun ok h1 F1 k1 m1 => ⟨_, rfl, k1, ?_⟩) (fun no v h1 F1 k1 w1 ef => ⟨_, rfl, k1, ?_⟩)
  · rw [if_pos ok] at K
    dsimp only at K
    refine M_tkR (d := d + 61) ht hn (m1.set (j := 1) (by omega)) 1 4 (by omega) (by omega) (F1.fs.1.ko ko) (fun ok2 h2 F2 k2 m2 => ⟨_, rfl, k2, ?_⟩) (fun no v h2 F2 k2 w2 ef => ⟨_, rfl, k2, ?_⟩)
    · rw [if_pos ok2] at K
      exact M_T2 (D' := D') ht hn (m2.set (j := 2) (by omega)) ((F1.fs.trans F2).fs.1.ko ko) (fun h3 F3 k3 mq => K h3 ((F1.fs.trans F2).fs.trans F3) k3 mq)
    · rw [if_neg no] at K
      exact M_T2f w2.fs ((F1.fs.trans F2).fs.1.ko ko) (fun h3 F3 k3 w3 => K h3 ((F1.fs.trans F2).fs.trans F3) k3 (Or.inl ⟨_, rfl, w3⟩))
  · rw [if_neg no] at K
    exact M_tk0 (d := d + 66) w1.fs _ _ (F1.fs.1.ko ko) (fun v2 => ⟨_, rfl, F1.fs.1.ko ko, M_T2f w1.fs.fs (F1.fs.fs.1.ko ko) (fun h3 F3 k3 w3 => K h3 (F1.fs.fs.trans F3) k3 (Or.inl ⟨_, rfl, w3⟩))⟩)
end EBMOPU
