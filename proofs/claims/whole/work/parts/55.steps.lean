section EBSTEPS
variable {L : Nat} {xs : Nat → Int32}
theorem ee_c (a b : Nat) (ha : a < 3000) (hb : b < 3000) : nI a = nI b ↔ a = b := nI_eq (by omega) (by omega)
theorem C_o1 {d : Nat} {h : eb_H} {Q : Option Value → eb_H → Prop} {C W : List Nat} {dp ps br sd wa fr : Nat} (l : ee_LR h C W dp ps br sd wa fr) (c : Nat) (hc : c ≤ 1005) (hC : C.length < 900) (ko : eb_KO h) (q : ∀ h', ec_fr ee_fq h h' → ee_LR h' (c :: C) W dp ps br sd 0 0 → Q (some (.int 1)) h') : eb_Ct (d + 1) 34 [.ref s_reader_laws, .int (nI c)] h Q := by
  refine T_X3_openAtom (d := d) _ ko ⟨fun z => absurd z (nI_pos (by omega)), fun _ => ⟨fun z => absurd z (nI_nlt (a := 1005) hc (by omega)), fun _ => ?_⟩⟩
  refine C_emit l c hC ko (fun h1 F1 l1 => ⟨rfl, F1.ko ko, ?_⟩)
  exact q _ ((F1.sI (Or.inl rfl)).sI (Or.inl rfl)) ((l1.set 9 0 (by decide)).set 10 0 (by decide))
theorem C_o2 {d : Nat} {h : eb_H} {Q : Option Value → eb_H → Prop} {C W : List Nat} {dp ps br sd wa fr : Nat} (l : ee_LR h C W dp ps br sd wa fr) (c : Nat) (hc : c = 1011 ∨ ((c = 1040 ∨ c = 1010) ∧ fr = 1)) (hd : dp < 6) (hp : ps < 1000) (hb : br < 1000) (hW : W.length < 32) (ko : eb_KO h) (q : ∀ h', ec_fr ee_fq h h' → ee_LR h' C (c :: W) (dp + 1) (if c = 1011 then ps + 1 else ps) (if c = 1010 then br + 1 else br) sd wa (if c = 1011 then 0 else fr) → Q (some (.int 1)) h') : eb_Ct (d + 1) 34 [.ref s_reader_laws, .int (nI c)] h Q := by
  have c2 : 1005 < c ∧ c < 2000 := by omega
  have e1 : nI c = (1011 : Int32) ↔ c = 1011 := ee_c c 1011 (by omega) (by omega)
  have e2 : nI c = (1040 : Int32) ↔ c = 1040 := ee_c c 1040 (by omega) (by omega)
  have e3 : nI c = (1010 : Int32) ↔ c = 1010 := ee_c c 1010 (by omega) (by omega)
  have frn : fr = 1 → ¬ eb_I h s_reader_laws 10 = 0 := fun z => by rw [l.2.2.2.2.2.2.2, z]; decide
  refine T_X3_openAtom (d := d) _ ko ⟨fun z => absurd z (nI_pos (by omega)), fun _ => ⟨fun _ => ⟨fun _ => ⟨fun _ => ?_, fun z => ?_⟩, fun z => ?_⟩, fun z => absurd (nI_lt (a := 1005) c2.1 (by omega)) z⟩⟩
  · rw [l.2.2.1, nI_1, e1, e3]
    refine C_await (l.set 5 (dp + 1) (by decide)) c hW ko (fun h1 F1 l1 => ⟨rfl, F1.ko ko, ?_⟩)
    have F2 : ec_fr ee_fq h h1 := (ec_fr.rfl.sI (Or.inl rfl)).trans F1
    refine ⟨fun z3 => ⟨fun z1 => q h1 F2 ?_, fun z1 => ?_⟩, fun z3 => ⟨fun z1 => ?_, fun z1 => absurd z1 (by omega)⟩⟩
    · rw [if_neg z1, if_neg z3, if_neg z1]
      exact l1
    · have e6 : eb_I h1 s_reader_laws 6 + 1 = nI (ps + 1) := by rw [l1.2.2.2.1]; exact nI_1 ps
      rw [e6]
      refine q _ ((F2.sI (Or.inl rfl)).sI (Or.inl rfl)) ?_
      rw [if_pos z1, if_neg z3, if_pos z1]
      exact (l1.set 6 (ps + 1) (by decide)).set 10 0 (by decide)
    · have e7 : eb_I h1 s_reader_laws 7 + 1 = nI (br + 1) := by rw [l1.2.2.2.2.1]; exact nI_1 br
      rw [e7]
      refine q _ (F2.sI (Or.inl rfl)) ?_
      rw [if_neg z1, if_pos z3, if_neg z1]
      exact l1.set 7 (br + 1) (by decide)
  · exfalso
    apply z
    rw [l.2.2.1]
    exact nI_lt (b := 6) hd (by omega)
  · exfalso
    apply z
    rcases hc with y | ⟨y, y2⟩
    · exact Or.inl (e1.mpr y)
    · refine Or.inr ⟨frn y2, ?_⟩
      rcases y with y | y
      · exact Or.inl (e2.mpr y)
      · exact Or.inr (e3.mpr y)
/-- what is sure of the reader behind a fault -/
def ee_LS (h : eb_H) : Prop := ∃ C W dp ps br sd wa fr, ee_LR h C W dp ps br sd wa fr ∧ W.length ≤ 32 ∧ C.length + W.length ≤ 899 ∧ (∃ dq, dp = dq + ee_nt W) ∧ dp < 1000 ∧ ∀ x, x ∈ W → 101 ≤ x / 10 ∧ x < 2000
theorem ee_LS.fr {P : Nat → Prop} {h h' : eb_H} (l : ee_LS h) (F : ec_fr P h h') (z1 : ¬ P s_reader_laws) (z2 : ¬ P s_reader_laws_codes) (z3 : ¬ P s_reader_laws_waiting) : ee_LS h' := by
  obtain ⟨C, W, dp, ps, br, sd, wa, fr, l, r⟩ := l
  exact ⟨C, W, dp, ps, br, sd, wa, fr, l.fr F z1 z2 z3, r⟩
theorem ee_LS.set {h : eb_H} (l : ee_LS h) (k v : Nat) (hk : 6 ≤ k) : ee_LS (eb_sI h s_reader_laws k (nI v)) := by
  obtain ⟨C, W, dp, ps, br, sd, wa, fr, l, r⟩ := l
  have l2 := l.set k v (by omega)
  rw [if_neg (show ¬ k = 5 by omega)] at l2
  exact ⟨C, W, dp, _, _, _, _, _, l2, r⟩
theorem C_o3 {d : Nat} {h : eb_H} {Q : Option Value → eb_H → Prop} {tx : Nat → Nat} {n p : Nat} (t : ee_XT h tx n p none) {C W : List Nat} {ps br sd wa fr : Nat} (l : ee_LR h C W 6 ps br sd wa fr) (c : Nat) (hc : c = 1011 ∨ ((c = 1040 ∨ c = 1010) ∧ fr = 1)) (hp : ps < 1000) (hb : br < 1000) (hW : W.length < 32) (hC : C.length + W.length < 899) (hn : ee_nt W ≤ 6) (hx : ∀ x, x ∈ W → 101 ≤ x / 10 ∧ x < 2000) (ko : eb_KO h) (q : ∀ h', ec_fr (fun c => ee_fq c ∨ c = s_tape) h h' → eb_I h' s_tape 1 = eb_I h s_tape 1 → ee_XT h' tx n p (some (4, nI (ee_b tx n p))) → ee_LS h' → Q (some (.int 1)) h') : eb_Ct (d + 1) 34 [.ref s_reader_laws, .int (nI c)] h Q := by
  have c2 : 1005 < c ∧ c < 2000 := by omega
  have e1 : nI c = (1011 : Int32) ↔ c = 1011 := ee_c c 1011 (by omega) (by omega)
  have e2 : nI c = (1040 : Int32) ↔ c = 1040 := ee_c c 1040 (by omega) (by omega)
  have e3 : nI c = (1010 : Int32) ↔ c = 1010 := ee_c c 1010 (by omega) (by omega)
  have frn : fr = 1 → ¬ eb_I h s_reader_laws 10 = 0 := fun z => by rw [l.2.2.2.2.2.2.2, z]; decide
  refine T_X3_openAtom (d := d) _ ko ⟨fun z => absurd z (nI_pos (by omega)), fun _ => ⟨fun _ => ⟨fun _ => ⟨fun z => ?_, fun _ => ?_⟩, fun z => ?_⟩, fun z => absurd (nI_lt (a := 1005) c2.1 (by omega)) z⟩⟩
  · exfalso
    rw [l.2.2.1] at z
    exact absurd z (by decide)
  · refine C_fl t 4 (by decide) ko (fun h1 F1 t1 => ⟨rfl, F1.1.ko ko, ?_⟩)
    have l1 := l.fr F1.1 (by decide) (by decide) (by decide)
    rw [l1.2.2.1, show nI 6 + 1 = nI 7 from nI_1 6, e1, e3]
    refine C_await (l1.set 5 7 (by decide)) c hW (F1.1.ko ko) (fun h2 F2 l2 => ⟨rfl, F2.ko (F1.1.ko ko), ?_⟩)
    have FF : ec_fr (fun c => ee_fq c ∨ c = s_tape) h h2 := (F1.1.weak (fun c z => Or.inr z)).trans (((ec_fr.rfl.sI (Or.inl rfl)).trans F2).weak (fun c z => Or.inl z))
    have T2 : eb_I h2 s_tape = eb_I h1 s_tape := by rw [F2.2.2 _ (by unfold ee_fq; decide), eb_I_sIn (by decide)]
    have f1 : eb_I h2 s_tape 1 = eb_I h s_tape 1 := by rw [T2]; exact F1.2
    have X2 : ee_XT h2 tx n p (some (4, nI (ee_b tx n p))) := by
      unfold ee_XT ee_TX
      rw [T2, F2.2.2 s_tape_text (by unfold ee_fq; decide), eb_I_sIn (by decide)]
      exact t1
    have S2 : ee_LS h2 := by
      refine ⟨C, c :: W, 7, _, _, _, _, _, l2, by show W.length + 1 ≤ 32; omega, by show C.length + (W.length + 1) ≤ 899; omega, ⟨7 - ee_nt (c :: W), ?_⟩, by omega, fun x hx' => ?_⟩
      · have : ee_nt (c :: W) ≤ 7 := by
          show (if c = 1040 then 1 else 0) + ee_nt W ≤ 7
          split <;> omega
        omega
      · rcases List.mem_cons.mp hx' with y | y
        · rw [y]; omega
        · exact hx x y
    have ok2 : ∀ (k v : Nat), 6 ≤ k → ∀ g, ec_fr (fun c => ee_fq c ∨ c = s_tape) h g → eb_I g s_tape 1 = eb_I h s_tape 1 → ee_XT g tx n p (some (4, nI (ee_b tx n p))) → ee_LS g → (ec_fr (fun c => ee_fq c ∨ c = s_tape) h (eb_sI g s_reader_laws k (nI v)) ∧ eb_I (eb_sI g s_reader_laws k (nI v)) s_tape 1 = eb_I h s_tape 1 ∧ ee_XT (eb_sI g s_reader_laws k (nI v)) tx n p (some (4, nI (ee_b tx n p))) ∧ ee_LS (eb_sI g s_reader_laws k (nI v))) := fun k v hk g a1 a2 a3 a4 => by
      refine ⟨a1.sI (Or.inl (Or.inl rfl)), by rw [eb_I_sIn (by decide)]; exact a2, ?_, a4.set k v hk⟩
      unfold ee_XT ee_TX
      rw [eb_I_sIn (by decide), eb_I_sIn (by decide)]
      exact a3
    refine ⟨fun z3 => ⟨fun z1 => q h2 FF f1 X2 S2, fun z1 => ?_⟩, fun z3 => ⟨fun z1 => ?_, fun z1 => absurd z1 (by omega)⟩⟩
    · have e6 : eb_I h2 s_reader_laws 6 + 1 = nI (ps + 1) := by rw [l2.2.2.2.1]; exact nI_1 ps
      rw [e6]
      obtain ⟨b1, b2, b3, b4⟩ := ok2 6 (ps + 1) (by decide) h2 FF f1 X2 S2
      obtain ⟨c1, c2, c3, c4⟩ := ok2 10 0 (by decide) _ b1 b2 b3 b4
      exact q _ c1 c2 c3 c4
    · have e7 : eb_I h2 s_reader_laws 7 + 1 = nI (br + 1) := by rw [l2.2.2.2.2.1]; exact nI_1 br
      rw [e7]
      obtain ⟨b1, b2, b3, b4⟩ := ok2 7 (br + 1) (by decide) h2 FF f1 X2 S2
      exact q _ b1 b2 b3 b4
  · exfalso
    apply z
    rcases hc with y | ⟨y, y2⟩
    · exact Or.inl (e1.mpr y)
    · refine Or.inr ⟨frn y2, ?_⟩
      rcases y with y | y
      · exact Or.inl (e2.mpr y)
      · exact Or.inr (e3.mpr y)
theorem C_o4 {d : Nat} {h : eb_H} {Q : Option Value → eb_H → Prop} (x : Int32) (hx : x < 0 ∨ (1005 : Int32) < x) (hn : ¬ ((x = (1011 : Int32)) ∨ ((¬ ((eb_I h s_reader_laws 10) = 0)) ∧ ((x = (1040 : Int32)) ∨ (x = (1010 : Int32)))))) (ko : eb_KO h) (q : Q (some (.int 0)) h) : eb_Ct (d + 1) 34 [.ref s_reader_laws, .int x] h Q :=
  T_X3_openAtom (d := d) _ ko ⟨fun _ => ⟨fun z => absurd z hn, fun _ => q⟩, fun z => ⟨fun _ => ⟨fun z => absurd z hn, fun _ => q⟩, fun z2 => absurd (hx.resolve_left z) z2⟩⟩
/-! joining -/
theorem C_j1 {d : Nat} {h : eb_H} {Q : Option Value → eb_H → Prop} {C q W : List Nat} {dp ps br sd wa fr : Nat} (l : ee_LR h C (q ++ W) (dp + ee_nt q) ps br sd wa fr) (c : Nat) (hc : c = 1060 ∨ c = 1061 ∨ c = 1070) (hs : sd < 2) (hq : ∀ x, x ∈ q → c / 10 ≤ x / 10 ∧ x < 2000) (hW : ∀ x W', W = x :: W' → x / 10 < c / 10 ∧ x < 2000) (hl : (q ++ W).length ≤ 31) (hC : C.length + q.length ≤ 900) (hd : dp + ee_nt q < 1000) (ko : eb_KO h) (w : ∀ h', ec_fr ee_fq h h' → ee_LR h' (q.reverse ++ C) (c :: W) dp ps br sd 1 fr → Q (some (.int 1)) h') : eb_Ct (d + 3) 35 [.ref s_reader_laws, .int (nI c)] h Q := by
  have e8 : ¬ eb_I h s_reader_laws 8 = (2 : Int32) := fun z => by
    have : nI sd = nI 2 := l.2.2.2.2.2.1.symm.trans z
    rw [nI_eq (by omega) (by omega)] at this
    omega
  have J : eb_Ct (d + 2) 36 [.ref s_reader_laws, .int (nI c)] h (fun r h3 => ∃ y4, r = some (.int y4) ∧ eb_KO h3 ∧ Q (some (.int (eb_q (¬ (y4 = 0))))) h3) := C_joinBy (d := d) l c (by omega) hq hW hl hC hd ko (fun h' F' l' => ⟨_, rfl, F'.ko ko, ec_qp (Q := fun y => Q (some (.int y)) h') (by decide) (w h' F' l')⟩)
  have e1 : nI c = (1060 : Int32) ↔ c = 1060 := ee_c c 1060 (by omega) (by omega)
  have e2 : nI c = (1061 : Int32) ↔ c = 1061 := ee_c c 1061 (by omega) (by omega)
  have e3 : nI c = (1070 : Int32) ↔ c = 1070 := ee_c c 1070 (by omega) (by omega)
  refine T_X3_joinOn (d := d + 2) _ ko ⟨fun _ => ⟨fun z => absurd z e8, fun _ => J⟩, fun z1 => ⟨fun _ => ⟨fun z => absurd z e8, fun _ => J⟩, fun z2 => ⟨fun z3 => ?_, fun _ => ⟨fun z => absurd z e8, fun _ => J⟩⟩⟩⟩
  exfalso
  rw [e1] at z1
  rw [e2] at z2
  rw [e3] at z3
  omega
theorem ee_nb1 : narrow .boolean (.int (1 : Int32)) = .int 1 := by decide
theorem C_j2 {d : Nat} {h : eb_H} {Q : Option Value → eb_H → Prop} {C q W : List Nat} {dp br wa fr : Nat} (l : ee_LR h C (q ++ W) (dp + ee_nt q) 0 br 0 wa fr) (c : Nat) (hc : c = 1050 ∨ c = 1051 ∨ c = 1052) (hq : ∀ x, x ∈ q → c / 10 ≤ x / 10 ∧ x < 2000) (hW : ∀ x W', W = x :: W' → x / 10 < c / 10 ∧ x < 2000) (hl : (q ++ W).length ≤ 31) (hC : C.length + q.length ≤ 900) (hd : dp + ee_nt q < 1000) (ko : eb_KO h) (w : ∀ h', ec_fr ee_fq h h' → ee_LR h' (q.reverse ++ C) (c :: W) dp 0 br 1 1 fr → Q (some (.int 1)) h') : eb_Ct (d + 3) 35 [.ref s_reader_laws, .int (nI c)] h Q := by
  have e8 : eb_I h s_reader_laws 8 = 0 := l.2.2.2.2.2.1
  have e6 : eb_I h s_reader_laws 6 = 0 := l.2.2.2.1
  have J : eb_Ct (d + 2) 36 [.ref s_reader_laws, .int (nI c)] (eb_sI h s_reader_laws 8 1) (fun r h21 => ∃ y22, r = some (.int y22) ∧ eb_KO h21 ∧ (narrow .boolean (.int y22) = .int y22) ∧ Q (some (.int y22)) h21) := C_joinBy (d := d) (l.set 8 1 (by decide)) c (by omega) hq hW hl hC hd ko (fun h' F' l' => ⟨_, rfl, F'.ko ko, ee_nb1, w h' ((ec_fr.rfl.sI (Or.inl rfl)).trans F') l'⟩)
  have k : ∀ m, m < 3000 → c ≠ m → ¬ nI c = nI m := fun m hm hne z => hne ((ee_c c m (by omega) hm).mp z)
  have e1 : nI c = (1050 : Int32) ↔ c = 1050 := ee_c c 1050 (by omega) (by omega)
  have e2 : nI c = (1051 : Int32) ↔ c = 1051 := ee_c c 1051 (by omega) (by omega)
  have e3 : nI c = (1052 : Int32) ↔ c = 1052 := ee_c c 1052 (by omega) (by omega)
  refine T_X3_joinOn (d := d + 2) _ ko ⟨fun z => absurd z (k 1060 (by omega) (by omega)), fun _ => ⟨fun z => absurd z (k 1061 (by omega) (by omega)), fun _ => ⟨fun _ => ⟨fun _ => ⟨fun _ => ⟨fun _ => J, fun z => absurd e8 z⟩, fun z1 => ⟨fun _ => ⟨fun _ => J, fun z => absurd e8 z⟩, fun z2 => ⟨fun z3 => ?_, fun _ => ⟨fun _ => J, fun z => absurd e8 z⟩⟩⟩⟩, fun z => absurd (by rw [e6]; decide) z⟩, fun z => absurd z (k 1070 (by omega) (by omega))⟩⟩⟩
  exfalso
  rw [e1] at z1
  rw [e2] at z2
  rw [e3] at z3
  omega
theorem C_j3 {d : Nat} {h : eb_H} {Q : Option Value → eb_H → Prop} {C q W : List Nat} {dp br sd wa fr : Nat} (l : ee_LR h C (q ++ W) (dp + ee_nt q) 0 br sd wa fr) (c : Nat) (hc : c = 1030 ∨ c = 1020) (hs : sd = 1 ∨ sd = 2) (hq : ∀ x, x ∈ q → c / 10 ≤ x / 10 ∧ x < 2000) (hW : ∀ x W', W = x :: W' → x / 10 < c / 10 ∧ x < 2000) (hl : (q ++ W).length ≤ 31) (hC : C.length + q.length ≤ 900) (hd : dp + ee_nt q < 1000) (ko : eb_KO h) (w : ∀ h', ec_fr ee_fq h h' → ee_LR h' (q.reverse ++ C) (c :: W) dp 0 br 0 1 1 → Q (some (.int 1)) h') : eb_Ct (d + 3) 35 [.ref s_reader_laws, .int (nI c)] h Q := by
  have e8 : ¬ eb_I h s_reader_laws 8 = 0 := fun z => by
    have : nI sd = nI 0 := l.2.2.2.2.2.1.symm.trans z
    rw [nI_eq (by omega) (by omega)] at this
    omega
  have e6 : eb_I h s_reader_laws 6 = 0 := l.2.2.2.1
  have J : eb_Ct (d + 2) 36 [.ref s_reader_laws, .int (nI c)] (eb_sI (eb_sI h s_reader_laws 8 0) s_reader_laws 10 1) (fun r h21 => ∃ y22, r = some (.int y22) ∧ eb_KO h21 ∧ (narrow .boolean (.int y22) = .int y22) ∧ Q (some (.int y22)) h21) := C_joinBy (d := d) ((l.set 8 0 (by decide)).set 10 1 (by decide)) c (by omega) hq hW hl hC hd ko (fun h' F' l' => ⟨_, rfl, F'.ko ko, ee_nb1, w h' (((ec_fr.rfl.sI (Or.inl rfl)).sI (Or.inl rfl)).trans F') l'⟩)
  have k : ∀ m, m < 3000 → c ≠ m → ¬ nI c = nI m := fun m hm hne z => hne ((ee_c c m (by omega) hm).mp z)
  have e1 : nI c = (1030 : Int32) ↔ c = 1030 := ee_c c 1030 (by omega) (by omega)
  have e2 : nI c = (1020 : Int32) ↔ c = 1020 := ee_c c 1020 (by omega) (by omega)
  refine T_X3_joinOn (d := d + 2) _ ko ⟨fun z => absurd z (k 1060 (by omega) (by omega)), fun _ => ⟨fun z => absurd z (k 1061 (by omega) (by omega)), fun _ => ⟨fun _ => ⟨fun _ => ⟨fun z => absurd z (k 1050 (by omega) (by omega)), fun _ => ⟨fun z => absurd z (k 1051 (by omega) (by omega)), fun _ => ⟨fun _ => ⟨fun _ => ⟨fun _ => J, fun z1 => ⟨fun z2 => ?_, fun _ => J⟩⟩, fun z => absurd z e8⟩, fun z => absurd z (k 1052 (by omega) (by omega))⟩⟩⟩, fun z => absurd (by rw [e6]; decide) z⟩, fun z => absurd z (k 1070 (by omega) (by omega))⟩⟩⟩
  exfalso
  rw [e1] at z1
  rw [e2] at z2
  omega
theorem C_j4 {d : Nat} {h : eb_H} {Q : Option Value → eb_H → Prop} {C q W : List Nat} {dp ps br sd wa fr : Nat} (l : ee_LR h C (q ++ 1011 :: W) (dp + 1 + ee_nt q) (ps + 1) br sd wa fr) (hps : ps < 1000) (hq : ∀ x, x ∈ q → 102 ≤ x / 10 ∧ x < 2000) (hl : (q ++ 1011 :: W).length ≤ 32) (hC : C.length + q.length ≤ 900) (hd : dp + 1 + ee_nt q < 1000) (ko : eb_KO h) (w : ∀ h', ec_fr ee_fq h h' → ee_LR h' (q.reverse ++ C) W dp ps br sd wa fr → Q (some (.int 1)) h') : eb_Ct (d + 3) 35 [.ref s_reader_laws, .int (nI 1081)] h Q := by
  have e6 : eb_I h s_reader_laws 6 = nI (ps + 1) := l.2.2.2.1
  refine T_X3_joinOn (d := d + 2) _ ko ⟨fun z => absurd z (by decide), fun _ => ⟨fun z => absurd z (by decide), fun _ => ⟨fun _ => ⟨fun z => ?_, fun _ => ⟨fun _ => ?_, fun z => absurd rfl z⟩⟩, fun z => absurd z (by decide)⟩⟩⟩
  · rw [e6] at z
    exact absurd z (nI_nle (by omega) (by omega))
  · rw [e6, nI_pred]
    exact C_close (d := d) (l.set 6 ps (by decide)) hq (by decide) hl hC hd ko (fun h' F' l' => ⟨rfl, F'.ko ko, w h' ((ec_fr.rfl.sI (Or.inl rfl)).trans F') l'⟩)
theorem C_j5 {d : Nat} {h : eb_H} {Q : Option Value → eb_H → Prop} {C q W : List Nat} {dp br sd wa fr : Nat} (l : ee_LR h C (q ++ 1010 :: W) (dp + 1 + ee_nt q) 0 (br + 1) sd wa fr) (hbr : br < 1000) (hs : sd = 1 ∨ sd = 2) (hq : ∀ x, x ∈ q → 102 ≤ x / 10 ∧ x < 2000) (hl : (q ++ 1010 :: W).length ≤ 32) (hC : C.length + q.length ≤ 900) (hd : dp + 1 + ee_nt q < 1000) (ko : eb_KO h) (w : ∀ h', ec_fr ee_fq h h' → ee_LR h' (q.reverse ++ C) W dp 0 br 2 wa fr → Q (some (.int 1)) h') : eb_Ct (d + 3) 35 [.ref s_reader_laws, .int (nI 1080)] h Q := by
  have e8 : ¬ eb_I h s_reader_laws 8 = 0 := fun z => by
    have : nI sd = nI 0 := l.2.2.2.2.2.1.symm.trans z
    rw [nI_eq (by omega) (by omega)] at this
    omega
  have e6 : eb_I h s_reader_laws 6 = 0 := l.2.2.2.1
  have e7 : eb_I h s_reader_laws 7 = nI (br + 1) := l.2.2.2.2.1
  refine T_X3_joinOn (d := d + 2) _ ko ⟨fun z => absurd z (by decide), fun _ => ⟨fun z => absurd z (by decide), fun _ => ⟨fun _ => ⟨fun _ => ⟨fun z => absurd z (by decide), fun _ => ⟨fun z => absurd z (by decide), fun _ => ⟨fun _ => ⟨fun _ => ⟨fun z => absurd z (by decide), fun _ => ⟨fun _ => ⟨fun z => absurd rfl z, fun _ => ⟨fun _ => ?_, fun z => ?_⟩⟩, fun z => absurd z (by decide)⟩⟩, fun z => absurd z e8⟩, fun z => absurd z (by decide)⟩⟩⟩, fun z => absurd (by rw [e6]; decide) z⟩, fun z => absurd z (by decide)⟩⟩⟩
  · rw [e7, nI_pred]
    exact C_close (d := d) ((l.set 7 br (by decide)).set 8 2 (by decide)) hq (by decide) hl hC hd ko (fun h' F' l' => ⟨rfl, F'.ko ko, w h' (((ec_fr.rfl.sI (Or.inl rfl)).sI (Or.inl rfl)).trans F') l'⟩)
  · exfalso
    apply z
    rw [e7]
    exact nI_le (a := 1) (by omega) (by omega)
/-- nothing else joins -/
theorem C_j6 {d : Nat} {h : eb_H} {Q : Option Value → eb_H → Prop} {C W : List Nat} {dp ps br sd wa fr : Nat} (l : ee_LR h C W dp ps br sd wa fr) (x : Int32) (hb : sd < 3 ∧ ps < 1000 ∧ br < 1000) (n1 : (x = (1060 : Int32) ∨ x = (1061 : Int32) ∨ x = (1070 : Int32)) → sd = 2) (n2 : ps = 0 → (x = (1050 : Int32) ∨ x = (1051 : Int32) ∨ x = (1052 : Int32)) → sd ≠ 0) (n3 : ps = 0 → sd ≠ 0 → x ≠ (1030 : Int32) ∧ x ≠ (1020 : Int32) ∧ (x = (1080 : Int32) → br = 0)) (n4 : ps ≠ 0 → x ≠ (1081 : Int32)) (ko : eb_KO h) (q : Q (some (.int 0)) h) : eb_Ct (d + 1) 35 [.ref s_reader_laws, .int x] h Q := by
  have e8 : eb_I h s_reader_laws 8 = nI sd := l.2.2.2.2.2.1
  have e6 : eb_I h s_reader_laws 6 = nI ps := l.2.2.2.1
  have e7 : eb_I h s_reader_laws 7 = nI br := l.2.2.2.2.1
  have s2 : nI sd = (2 : Int32) ↔ sd = 2 := nI_eq (b := 2) (by omega) (by omega)
  have s0 : nI sd = (0 : Int32) ↔ sd = 0 := nI_eq (b := 0) (by omega) (by omega)
  have p0 : nI ps ≤ (0 : Int32) ↔ ps ≤ 0 := nI_leI (b := 0) (by omega) (by omega)
  have b1 : (1 : Int32) ≤ nI br ↔ 1 ≤ br := nI_leI (a := 1) (by omega) (by omega)
  refine T_X3_joinOn (d := d) _ ko ?_
  rw [e8, e6, e7, s2, s0, p0, b1]
  refine ⟨fun z => ⟨fun _ => q, fun u => absurd (n1 (Or.inl z)) u⟩, fun _ => ⟨fun z => ⟨fun _ => q, fun u => absurd (n1 (Or.inr (Or.inl z))) u⟩, fun _ => ⟨fun _ => ⟨fun y => ⟨fun z => ⟨fun u => absurd u (n2 (by omega) (Or.inl z)), fun _ => q⟩, fun _ => ⟨fun z => ⟨fun u => absurd u (n2 (by omega) (Or.inr (Or.inl z))), fun _ => q⟩, fun _ => ⟨fun _ => ⟨fun u => ⟨fun z => absurd z (n3 (by omega) u).1, fun _ => ⟨fun _ => ⟨fun _ => q, fun z => ⟨fun v => absurd ((n3 (by omega) u).2.2 z) (by omega), fun _ => q⟩⟩, fun z => absurd z (n3 (by omega) u).2.1⟩⟩, fun _ => q⟩, fun z => ⟨fun u => absurd u (n2 (by omega) (Or.inr (Or.inr z))), fun _ => q⟩⟩⟩⟩, fun y => ⟨fun z => absurd z (n4 (by omega)), fun _ => q⟩⟩, fun z => ⟨fun _ => q, fun u => absurd (n1 (Or.inr (Or.inr z))) u⟩⟩⟩⟩
end EBSTEPS
