section EBLAWR
variable {L : Nat} {xs : Nat → Int32}
/-! ===== the class's reader of laws: codes told (the latest first), operators that wait (the latest first) ===== -/
def ee_ro (h : eb_H) (a : Nat) : List Nat → Prop
  | [] => True
  | x :: l => eb_I h a l.length = nI x ∧ ee_ro h a l
theorem ee_ro.mv {h h' : eb_H} {a : Nat} : ∀ {l : List Nat}, ee_ro h a l → (∀ j, j < l.length → eb_I h' a j = eb_I h a j) → ee_ro h' a l
  | [], _, _ => True.intro
  | x :: l, r, e => ⟨by rw [e l.length (by show l.length < l.length + 1; omega)]; exact r.1, r.2.mv (fun j hj => e j (by show j < l.length + 1; omega))⟩
def ee_LR (h : eb_H) (C W : List Nat) (dp ps br sd wa fr : Nat) : Prop := (eb_I h s_reader_laws 3 = nI C.length ∧ ee_ro h s_reader_laws_codes C) ∧ (eb_I h s_reader_laws 4 = nI W.length ∧ ee_ro h s_reader_laws_waiting W) ∧ eb_I h s_reader_laws 5 = nI dp ∧ eb_I h s_reader_laws 6 = nI ps ∧ eb_I h s_reader_laws 7 = nI br ∧ eb_I h s_reader_laws 8 = nI sd ∧ eb_I h s_reader_laws 9 = nI wa ∧ eb_I h s_reader_laws 10 = nI fr
def ee_fq (c : Nat) : Prop := c = s_reader_laws ∨ c = s_reader_laws_codes ∨ c = s_reader_laws_waiting
theorem ee_LR.fr {P : Nat → Prop} {h h' : eb_H} {C W : List Nat} {dp ps br sd wa fr : Nat} (l : ee_LR h C W dp ps br sd wa fr) (F : ec_fr P h h') (z1 : ¬ P s_reader_laws) (z2 : ¬ P s_reader_laws_codes) (z3 : ¬ P s_reader_laws_waiting) : ee_LR h' C W dp ps br sd wa fr := by
  obtain ⟨⟨a1, a2⟩, ⟨b1, b2⟩, c⟩ := l
  have e1 := F.2.2 _ z1
  have e2 := F.2.2 _ z2
  have e3 := F.2.2 _ z3
  refine ⟨⟨by rw [e1]; exact a1, a2.mv (fun j _ => by rw [e2])⟩, ⟨by rw [e1]; exact b1, b2.mv (fun j _ => by rw [e3])⟩, ?_⟩
  rw [e1]
  exact c
/-- a field of it set -/
theorem ee_LR.set {h : eb_H} {C W : List Nat} {dp ps br sd wa fr : Nat} (l : ee_LR h C W dp ps br sd wa fr) (k v : Nat) (hk : 5 ≤ k) : ee_LR (eb_sI h s_reader_laws k (nI v)) C W (if k = 5 then v else dp) (if k = 6 then v else ps) (if k = 7 then v else br) (if k = 8 then v else sd) (if k = 9 then v else wa) (if k = 10 then v else fr) := by
  obtain ⟨⟨a1, a2⟩, ⟨b1, b2⟩, c5, c6, c7, c8, c9, c10⟩ := l
  have gen : ∀ (j : Nat) (x : Nat), eb_I h s_reader_laws j = nI x → eb_I (eb_sI h s_reader_laws k (nI v)) s_reader_laws j = nI (if k = j then v else x) := fun j x e => by
    rw [eb_I_sI]
    by_cases z : k = j
    · rw [if_pos z.symm, if_pos z]
    · rw [if_neg (fun y => z y.symm), if_neg z]; exact e
  refine ⟨⟨?_, a2.mv (fun j _ => by rw [eb_I_sIn (by decide)])⟩, ⟨?_, b2.mv (fun j _ => by rw [eb_I_sIn (by decide)])⟩, gen 5 _ c5, gen 6 _ c6, gen 7 _ c7, gen 8 _ c8, gen 9 _ c9, gen 10 _ c10⟩
  · rw [eb_I_sI, if_neg (by omega)]; exact a1
  · rw [eb_I_sI, if_neg (by omega)]; exact b1
theorem C_emit {d : Nat} {h : eb_H} {Q : Option Value → eb_H → Prop} {C W : List Nat} {dp ps br sd wa fr : Nat} (l : ee_LR h C W dp ps br sd wa fr) (x : Nat) (hC : C.length < 900) (ko : eb_KO h) (q : ∀ h', ec_fr ee_fq h h' → ee_LR h' (x :: C) W dp ps br sd wa fr → Q none h') : eb_Ct d 40 [.ref s_reader_laws, .int (nI x)] h Q := by
  obtain ⟨⟨a1, a2⟩, ⟨b1, b2⟩, c5, c6, c7, c8, c9, c10⟩ := l
  refine T_X3_emit _ ko ?_
  rw [a1, eb_cln (n := C.length) (by omega)]
  refine ⟨fun z => absurd z (nI_pos (by omega)), fun _ => ⟨fun _ => ⟨vp_in_nI hC (by omega), ?_⟩, fun z => absurd (nI_lt (b := 900) hC (by omega)) z⟩⟩
  rw [eb_I_sIn (by decide), a1, nI_1]
  have g : ∀ j, j ≠ 3 → eb_I (eb_sI (eb_sI h s_reader_laws_codes C.length (nI x)) s_reader_laws 3 (nI (C.length + 1))) s_reader_laws j = eb_I h s_reader_laws j := fun j hj => by
    rw [eb_I_sI, if_neg hj, eb_I_sIn (by decide)]
  refine q _ ((ec_fr.rfl.sI (Or.inr (Or.inl rfl))).sI (Or.inl rfl)) ⟨⟨eb_I_sI', ?_, a2.mv (fun j hj => ?_)⟩, ⟨by rw [g _ (by decide)]; exact b1, b2.mv (fun j _ => by rw [eb_I_sIn (by decide), eb_I_sIn (by decide)])⟩, by rw [g _ (by decide)]; exact c5, by rw [g _ (by decide)]; exact c6, by rw [g _ (by decide)]; exact c7, by rw [g _ (by decide)]; exact c8, by rw [g _ (by decide)]; exact c9, by rw [g _ (by decide)]; exact c10⟩
  · rw [eb_I_sIn (by decide), eb_I_sI']
  · rw [eb_I_sIn (by decide), eb_I_sI, if_neg (by omega)]
theorem C_await {d : Nat} {h : eb_H} {Q : Option Value → eb_H → Prop} {C W : List Nat} {dp ps br sd wa fr : Nat} (l : ee_LR h C W dp ps br sd wa fr) (x : Nat) (hW : W.length < 32) (ko : eb_KO h) (q : ∀ h', ec_fr ee_fq h h' → ee_LR h' C (x :: W) dp ps br sd wa fr → Q none h') : eb_Ct d 39 [.ref s_reader_laws, .int (nI x)] h Q := by
  obtain ⟨⟨a1, a2⟩, ⟨b1, b2⟩, c5, c6, c7, c8, c9, c10⟩ := l
  refine T_X3_await _ ko ?_
  rw [b1, eb_cln (n := W.length) (by omega)]
  refine ⟨fun z => absurd z (nI_pos (by omega)), fun _ => ⟨fun _ => ⟨vp_in_nI hW (by omega), ?_⟩, fun z => absurd (nI_lt (b := 32) hW (by omega)) z⟩⟩
  rw [eb_I_sIn (by decide), b1, nI_1]
  have g : ∀ j, j ≠ 4 → eb_I (eb_sI (eb_sI h s_reader_laws_waiting W.length (nI x)) s_reader_laws 4 (nI (W.length + 1))) s_reader_laws j = eb_I h s_reader_laws j := fun j hj => by
    rw [eb_I_sI, if_neg hj, eb_I_sIn (by decide)]
  refine q _ ((ec_fr.rfl.sI (Or.inr (Or.inr rfl))).sI (Or.inl rfl)) ⟨⟨by rw [g _ (by decide)]; exact a1, a2.mv (fun j _ => by rw [eb_I_sIn (by decide), eb_I_sIn (by decide)])⟩, ⟨eb_I_sI', ?_, b2.mv (fun j hj => ?_)⟩, by rw [g _ (by decide)]; exact c5, by rw [g _ (by decide)]; exact c6, by rw [g _ (by decide)]; exact c7, by rw [g _ (by decide)]; exact c8, by rw [g _ (by decide)]; exact c9, by rw [g _ (by decide)]; exact c10⟩
  · rw [eb_I_sIn (by decide), eb_I_sI']
  · rw [eb_I_sIn (by decide), eb_I_sI, if_neg (by omega)]
/-- how many of them are "not" -/
def ee_nt : List Nat → Nat
  | [] => 0
  | x :: l => (if x = 1040 then 1 else 0) + ee_nt l
theorem ee_nt_app : ∀ (a b : List Nat), ee_nt (a ++ b) = ee_nt a + ee_nt b
  | [], b => (Nat.zero_add _).symm
  | x :: a, b => by
    show (if x = 1040 then 1 else 0) + ee_nt (a ++ b) = (if x = 1040 then 1 else 0) + ee_nt a + ee_nt b
    rw [ee_nt_app a b, Nat.add_assoc]
/-- what waits and binds as closely is told -/
theorem C_settle {d : Nat} {h : eb_H} {Q : Option Value → eb_H → Prop} {C q W : List Nat} {dp ps br sd wa fr : Nat} (l : ee_LR h C (q ++ W) (dp + ee_nt q) ps br sd wa fr) (c : Nat) (hc : c < 2000) (hq : ∀ x, x ∈ q → c / 10 ≤ x / 10 ∧ x < 2000) (hW : ∀ x W', W = x :: W' → x / 10 < c / 10 ∧ x < 2000) (hl : (q ++ W).length ≤ 32) (hC : C.length + q.length ≤ 900) (hd : dp + ee_nt q < 1000) (ko : eb_KO h) (w : ∀ h', ec_fr ee_fq h h' → ee_LR h' (q.reverse ++ C) W dp ps br sd wa fr → Q none h') : eb_Ct (d + 1) 37 [.ref s_reader_laws, .int (nI c)] h Q := by
  have e10 : nI c / 10 = nI (c / 10) := pk_div (d := 10) (by omega) (by omega) (by omega)
  have key : ∀ (q' : List Nat) (i : Nat) (g : eb_H) (C' : List Nat), (∀ x, x ∈ q' → c / 10 ≤ x / 10 ∧ x < 2000) → i + q'.length = q.length → C'.length + q'.length ≤ 900 → dp + ee_nt q' < 1000 → q'.reverse ++ C' = q.reverse ++ C → ec_fr ee_fq h g → ee_LR g C' (q' ++ W) (dp + ee_nt q') ps br sd wa fr → eb_Sn (d + 1) m_X3_settle h 2 [(0, .ref s_reader_laws), (1, .int (nI c)), (2, .int (nI i))] [] g Q := by
    intro q'
    induction q' with
    | nil =>
      intro i g C' _ hi _ _ er F lg
      have er : C' = q.reverse ++ C := er
      have lg' : ee_LR g (q.reverse ++ C) W dp ps br sd wa fr := by
        rw [← er]
        exact lg
      have fin := w g F lg'
      have hl' : q.length + W.length ≤ 32 := by rw [← List.length_append]; exact hl
      have hi : i = q.length := by
        have : i + 0 = q.length := hi
        omega
      refine b_X3_settle_2 (d := d) _ _ (F.ko ko) ⟨fun _ => fin, fun _ => ⟨fun _ => fin, fun z => ?_⟩⟩
      rw [lg'.2.1.1] at z ⊢
      cases W with
      | nil => exact absurd (by decide) z
      | cons x W' =>
        obtain ⟨x1, x2⟩ := hW x W' rfl
        have lw : (x :: W').length = W'.length + 1 := rfl
        have ex : eb_I g s_reader_laws_waiting W'.length = nI x := lg'.2.1.2.1
        have es : nI (x :: W').length - 1 = nI W'.length := by rw [lw]; exact nI_pred _
        rw [es, eb_cln (n := W'.length) (by omega), ex, show nI x / 10 = nI (x / 10) from pk_div (d := 10) (by omega) (by omega) (by omega), e10]
        exact ⟨fun _ => fin, fun _ => ⟨vp_in_nI (by omega) (by omega), fun y => absurd y (nI_ge x1 (by omega)), fun _ => fin⟩⟩
    | cons x q' ih =>
      intro i g C' hq' hi hC' hd' er F lg
      have kg := F.ko ko
      obtain ⟨x1, x2⟩ := hq' x (List.mem_cons_self ..)
      have ll : (x :: q').length = q'.length + 1 := rfl
      have hl' : q.length + W.length ≤ 32 := by rw [← List.length_append]; exact hl
      have lq : (q' ++ W).length = q'.length + W.length := List.length_append
      obtain ⟨⟨a1, a2⟩, ⟨b1, b2⟩, c5, c6⟩ := lg
      have b1 : eb_I g s_reader_laws 4 = nI ((q' ++ W).length + 1) := b1
      have bx : eb_I g s_reader_laws_waiting (q' ++ W).length = nI x := b2.1
      have es : nI ((q' ++ W).length + 1) - 1 = nI (q' ++ W).length := nI_pred _
      refine b_X3_settle_2 (d := d) _ _ kg ?_
      rw [b1, es, eb_cln (n := (q' ++ W).length) (by omega), bx, show nI x / 10 = nI (x / 10) from pk_div (d := 10) (by omega) (by omega) (by omega), e10, nI_1]
      refine ⟨fun z => absurd z (nI_ge (a := i) (b := 32) (by omega) (by omega)), fun _ => ⟨fun z => absurd z (nI_nle (by omega) (by omega)), fun _ => ⟨fun z => absurd z (nI_nlt (a := 32) (by omega) (by omega)), fun _ => ⟨vp_in_nI (by omega) (by omega), fun _ => ?_, fun z => absurd (nI_le x1 (by omega)) z⟩⟩⟩⟩
      have g4 : ∀ j, j ≠ 4 → eb_I (eb_sI g s_reader_laws 4 (nI (q' ++ W).length)) s_reader_laws j = eb_I g s_reader_laws j := fun j hj => by rw [eb_I_sI, if_neg hj]
      have F4 : ec_fr ee_fq h (eb_sI g s_reader_laws 4 (nI (q' ++ W).length)) := F.sI (Or.inl rfl)
      have er' : q'.reverse ++ (x :: C') = q.reverse ++ C := by
        rw [← er, List.reverse_cons, List.append_assoc]
        rfl
      have nt : ee_nt (x :: q') = (if x = 1040 then 1 else 0) + ee_nt q' := rfl
      have l4 : ee_LR (eb_sI g s_reader_laws 4 (nI (q' ++ W).length)) C' (q' ++ W) (dp + ee_nt (x :: q')) ps br sd wa fr := ⟨⟨by rw [g4 _ (by decide)]; exact a1, a2.mv (fun j _ => by rw [eb_I_sIn (by decide)])⟩, ⟨eb_I_sI', b2.2.mv (fun j _ => by rw [eb_I_sIn (by decide)])⟩, by rw [g4 _ (by decide)]; exact c5, by rw [g4 _ (by decide), g4 _ (by decide), g4 _ (by decide), g4 _ (by decide), g4 _ (by decide)]; exact c6⟩
      generalize eb_sI g s_reader_laws 4 (nI (q' ++ W).length) = g2 at F4 l4 ⊢
      have e1040 : nI x = (1040 : Int32) ↔ x = 1040 := nI_eq (b := 1040) (by omega) (by omega)
      rw [e1040]
      refine ⟨fun z => ?_, fun z => ?_⟩
      · rw [nt, if_neg z, Nat.zero_add] at l4
        rw [nt, if_neg z, Nat.zero_add] at hd'
        exact C_emit l4 x (by omega) (F4.ko ko) (fun h7 F7 l7 => ⟨rfl, F7.ko (F4.ko ko), ih (i + 1) h7 (x :: C') (fun y hy => hq' y (List.mem_cons_of_mem _ hy)) (by omega) (by show C'.length + 1 + q'.length ≤ 900; omega) hd' er' (F4.trans F7) l7⟩)
      · rw [nt, if_pos z] at l4
        rw [nt, if_pos z] at hd'
        have e5 : eb_I g2 s_reader_laws 5 - 1 = nI (dp + ee_nt q') := by
          rw [l4.2.2.1, show dp + (1 + ee_nt q') = dp + ee_nt q' + 1 by omega]
          exact nI_pred _
        rw [e5]
        have l5 := l4.set 5 (dp + ee_nt q') (by decide)
        exact C_emit l5 x (by omega) (F4.ko ko) (fun h7 F7 l7 => ⟨rfl, F7.ko (F4.ko ko), ih (i + 1) h7 (x :: C') (fun y hy => hq' y (List.mem_cons_of_mem _ hy)) (by omega) (by show C'.length + 1 + q'.length ≤ 900; omega) (by omega) er' ((F4.sI (Or.inl rfl)).trans F7) l7⟩)
  exact T_X3_settle (d := d) _ ko (key q 0 h C hq (by omega) hC hd rfl ec_fr.rfl l)
theorem C_joinBy {d : Nat} {h : eb_H} {Q : Option Value → eb_H → Prop} {C q W : List Nat} {dp ps br sd wa fr : Nat} (l : ee_LR h C (q ++ W) (dp + ee_nt q) ps br sd wa fr) (c : Nat) (hc : c < 2000) (hq : ∀ x, x ∈ q → c / 10 ≤ x / 10 ∧ x < 2000) (hW : ∀ x W', W = x :: W' → x / 10 < c / 10 ∧ x < 2000) (hl : (q ++ W).length ≤ 31) (hC : C.length + q.length ≤ 900) (hd : dp + ee_nt q < 1000) (ko : eb_KO h) (w : ∀ h', ec_fr ee_fq h h' → ee_LR h' (q.reverse ++ C) (c :: W) dp ps br sd 1 fr → Q (some (.int 1)) h') : eb_Ct (d + 2) 36 [.ref s_reader_laws, .int (nI c)] h Q := by
  have ll : (q ++ W).length = q.length + W.length := List.length_append
  refine T_X3_joinBy (d := d + 1) _ ko (C_settle (d := d) l c hc hq hW (by omega) hC hd ko (fun h1 F1 l1 => ⟨rfl, F1.ko ko, ?_⟩))
  refine C_await l1 c (by omega) (F1.ko ko) (fun h2 F2 l2 => ⟨rfl, F2.ko (F1.ko ko), ?_⟩)
  exact w _ ((F1.trans F2).sI (Or.inl rfl)) (l2.set 9 1 (by decide))
theorem C_close {d : Nat} {h : eb_H} {Q : Option Value → eb_H → Prop} {C q W : List Nat} {o dp ps br sd wa fr : Nat} (l : ee_LR h C (q ++ o :: W) (dp + 1 + ee_nt q) ps br sd wa fr) (hq : ∀ x, x ∈ q → 102 ≤ x / 10 ∧ x < 2000) (ho : o / 10 = 101) (hl : (q ++ o :: W).length ≤ 32) (hC : C.length + q.length ≤ 900) (hd : dp + 1 + ee_nt q < 1000) (ko : eb_KO h) (w : ∀ h', ec_fr ee_fq h h' → ee_LR h' (q.reverse ++ C) W dp ps br sd wa fr → Q none h') : eb_Ct (d + 2) 38 [.ref s_reader_laws] h Q := by
  have ll : (q ++ o :: W).length = q.length + (W.length + 1) := List.length_append
  refine T_X3_close (d := d + 1) ko (C_settle (d := d) l 1020 (by decide) hq (fun x W' e => by cases e; omega) hl hC hd ko (fun h1 F1 l1 => ⟨rfl, F1.ko ko, ?_⟩))
  have e5 : eb_I h1 s_reader_laws 5 - 1 = nI dp := by
    rw [l1.2.2.1]
    exact nI_pred dp
  rw [e5]
  have l2 := l1.set 5 dp (by decide)
  have F2 : ec_fr ee_fq h (eb_sI h1 s_reader_laws 5 (nI dp)) := F1.sI (Or.inl rfl)
  generalize eb_sI h1 s_reader_laws 5 (nI dp) = h2 at l2 F2 ⊢
  obtain ⟨⟨a1, a2⟩, ⟨b1, b2⟩, c5, c6, c7, c8, c9, c10⟩ := l2
  have b1 : eb_I h2 s_reader_laws 4 = nI (W.length + 1) := b1
  rw [b1]
  refine ⟨fun z => absurd z (nI_nle (by omega) (by omega)), fun _ => ?_⟩
  rw [nI_pred]
  have g : ∀ j, j ≠ 4 → eb_I (eb_sI h2 s_reader_laws 4 (nI W.length)) s_reader_laws j = eb_I h2 s_reader_laws j := fun j hj => by rw [eb_I_sI, if_neg hj]
  exact w _ (F2.sI (Or.inl rfl)) ⟨⟨by rw [g _ (by decide)]; exact a1, a2.mv (fun j _ => by rw [eb_I_sIn (by decide)])⟩, ⟨eb_I_sI', b2.2.mv (fun j _ => by rw [eb_I_sIn (by decide)])⟩, by rw [g _ (by decide)]; exact c5, by rw [g _ (by decide)]; exact c6, by rw [g _ (by decide)]; exact c7, by rw [g _ (by decide)]; exact c8, by rw [g _ (by decide)]; exact c9, by rw [g _ (by decide)]; exact c10⟩
end EBLAWR
