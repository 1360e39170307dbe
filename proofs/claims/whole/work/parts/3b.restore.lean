section EBRESTORE
variable {L : Nat} {xs : Nat → Int32}
theorem M_res_l {d : Nat} {h0 : eb_H} {Q : Option Value → eb_H → Prop} (v1 : Int32) (rg : 0 ≤ v1.toInt ∧ v1.toInt < 2) : ∀ (m j : Nat) (g : eb_H), j + m = 1164 → eb_KO g → (∀ q, q < j → eb_I g s_m_all q = eb_I g s_m_all (1164 * (v1.toInt.toNat + 1) + q)) → (∀ g', eb_same (fun c => c ≠ s_m_all) g g' → eb_nz g g' → eb_J g' = eb_J g → (∀ q, 1164 ≤ q → eb_I g' s_m_all q = eb_I g s_m_all q) → (∀ q, q < 1164 → eb_I g' s_m_all q = eb_I g s_m_all (1164 * (v1.toInt.toNat + 1) + q)) → Q (some (.int 0)) (eb_sI g' s_m_all 52 0)) → eb_Sn (d + 1) m_X11_restore h0 32 [(0, .ref s_MO), (1, .int v1), (2, .int (nI j))] [] g Q := by
  intro m
  induction m with
  | zero =>
    intro j g hj ko hf w
    refine b_X11_restore_32 v1 _ ko ⟨fun _ => w g eb_same.rfl eb_nz.rfl rfl (fun _ _ => rfl) (fun q hq => hf q (by omega)), fun c => ?_⟩
    exfalso
    apply c
    show nI 1164 ≤ nI j
    rw [nI_leI (by omega) (by omega)]
    omega
  | succ m ih =>
    intro j g hj ko hf w
    have idx := eb_1164 rg j
    have tx : ((1164 : Int32) * (v1 + 1) + nI j).toNatClampNeg = 1164 * (v1.toInt.toNat + 1) + j := by
      rw [idx, eb_tnc, nI_toInt (by omega)]; omega
    have ej : (nI j).toNatClampNeg = j := by
      rw [eb_tnc, nI_toInt (by omega)]; omega
    refine b_X11_restore_32 v1 _ ko ⟨fun c => ?_, fun _ => ⟨?_, vp_in_nI (by omega) (by omega), ?_⟩⟩
    · exfalso
      have c : nI 1164 ≤ nI j := c
      rw [nI_leI (by omega) (by omega)] at c
      omega
    · rw [idx]; exact vp_in_nI (by omega) (by omega)
    · rw [show nI j + 1 = nI (j + 1) from nI_add j 1, tx, ej]
      refine ih (j + 1) _ (by omega) ko ?_ ?_
      · intro q hq
        rw [eb_I_sI, eb_I_sI, if_neg (show ¬ 1164 * (v1.toInt.toNat + 1) + q = j by omega)]
        by_cases e : q = j
        · rw [if_pos e, e]
        · rw [if_neg e]; exact hf q (by omega)
      · intro g' s1 s2 s3 s4 s5
        refine w g' ((eb_same.rfl.sI (fun z => z rfl)).trans s1) (eb_nz.trans ⟨rfl, rfl, rfl, rfl, rfl⟩ s2) s3 (fun q hq => ?_) (fun q hq => ?_)
        · rw [s4 q hq, eb_I_sI, if_neg (by omega)]
        · rw [s5 q hq, eb_I_sI, if_neg (by omega)]
/-- another valley and state, and nothing to undo -/
def eb_Wo.setAt (w : eb_Wo) (V : eb_Va) (s : eb_St) : eb_Wo := (w.1, w.2.1, w.2.2.1, V, s, [], w.tray, w.img)
theorem PX.setAt {w : eb_Wo} {h h' : eb_H} (p : PX w h) (V : eb_Va) (s : eb_St) (v : Nat) (q : eb_same (fun c => c ≠ s_EB ∧ c ≠ s_now ∧ c ≠ s_now + 524807 ∧ c ≠ s_past) h h') (ev : eb_R h' s_EB 2 = some v) (pv : PXV h' v V) (pn : PXS h' s_now s) (p2 : eb_I h' s_past 2 = 0) (p1 : eb_I h' s_past 1 = eb_I h s_past 1) : PX (w.setAt V s) h' := by
  have wk : ∀ a b, ((0 < a ∧ b < 15) ∨ 21 < a) → eb_same (eb_in a b) h h' := fun a b z => q.weak (fun c y => by
    unfold eb_in at y
    refine ⟨fun e => ?_, fun e => ?_, fun e => ?_, fun e => ?_⟩
    · rw [e] at y; unfold eb_ix s_EB at y; omega
    · rw [e] at y; unfold eb_ix s_now at y; omega
    · rw [e] at y; unfold eb_ix s_now at y; omega
    · rw [e] at y; unfold eb_ix s_past at y; omega)
  have w9 : eb_same (fun c => eb_kd c ≠ 19 ∧ 89 ≤ eb_ix c) h h' := q.weak (fun c y => by
    refine ⟨fun e => ?_, fun e => ?_, fun e => ?_, fun e => ?_⟩
    · rw [e] at y; unfold eb_ix s_EB at y; omega
    · rw [e] at y; unfold eb_ix s_now at y; omega
    · rw [e] at y; unfold eb_ix s_now at y; omega
    · rw [e] at y; unfold eb_ix s_past at y; omega)
  obtain ⟨t1, t2, t3, t4⟩ := p.tape_mv (wk 3 4 (by omega))
  obtain ⟨n, hn, e, _⟩ := p.past
  refine ⟨t1, t2, t3, t4, ⟨v, ev, pv⟩, pn, p2, ⟨n, hn, p1.trans e, fun i hi => absurd hi (Nat.not_lt_zero i)⟩, fun j hj => (p.tray j hj).mv hj (wk _ _ (by omega)), fun j hj => ?_, p.two_mv (wk 43 43 (by omega))⟩
  refine (p.img j hj).mv hj ?_ (wk _ _ (by omega)) (wk 12 14 (by omega)) w9
  rw [(wk 57 57 (by omega) s_imageValleys (by unfold eb_in eb_ix eb_kd s_imageValleys; omega)).2.2]
theorem PM.setAt {w : eb_Wo} {h h' : eb_H} (p : PM w h) (ok : eb_okW w) {i : Nat} (hi : i < 2) (t : eb_Va × eb_St) (ht : w.img i = some t) (hI : ∀ c, c ≠ s_m_all → eb_I h' c = eb_I h c) (hJ : eb_J h' = eb_J h) (ho : ∀ q, 1164 ≤ q → eb_I h' s_m_all q = eb_I h s_m_all q) (hc : ∀ q, q < 1164 → q ≠ 52 → eb_I h' s_m_all q = eb_I h s_m_all (1164 * (i + 1) + q)) (h52 : eb_I h' s_m_all 52 = 0) : PM (w.setAt t.1 t.2) h' := by
  have q0 := hI s_MO (by decide)
  have q2 := hI s_m_tape (by decide)
  have q3 := hI s_m_rowSort (by decide)
  have q4 := hI s_m_rowMany (by decide)
  have q6 := hI s_m_hasImage (by decide)
  have pi := p.img i hi
  rw [ht] at pi
  refine ⟨?_, ?_, ?_, ?_, pi.2.1.mvB (ok.img i t hi ht).1 (fun q hq hn => by rw [Nat.zero_add]; exact hc q hq hn), pi.2.2.mvB (fun q hq => ?_), h52, fun j hj => absurd hj (Nat.not_lt_zero j), ?_, ?_⟩
  · rw [q0]; exact p.fed
  · rw [q2]; exact p.text
  · rw [q0]; exact p.fault
  · rw [q0]; exact p.place
  · rw [Nat.add_assoc]; exact hc (31 + q) (by omega) (by omega)
  · intro j hj
    have p1 := p.tray j hj
    show PMT h' j (w.tray j)
    cases hq : w.tray j with
    | none => rw [hq] at p1; unfold PMT at p1 ⊢; rw [q3]; exact p1
    | some z => rw [hq] at p1; unfold PMT at p1 ⊢; rw [q3, q4, hJ]; exact p1
  · intro j hj
    show PMI h' j (w.img j)
    have p1 := p.img j hj
    cases hq : w.img j with
    | none => rw [hq] at p1; unfold PMI at p1 ⊢; rw [q6]; exact p1
    | some z =>
      rw [hq] at p1
      unfold PMI at p1 ⊢
      rw [q6]
      exact ⟨p1.1, p1.2.1.mvB (ok.img j z hj hq).1 (fun q hq _ => ho _ (by omega)), p1.2.2.mvB (fun q hq => ho _ (by omega))⟩
theorem eb_okW.setAt {w : eb_Wo} (p : eb_okW w) (V : eb_Va) (s : eb_St) (h1 : eb_okV V) (h2 : eb_okS V s) : eb_okW (w.setAt V s) :=
  ⟨p.fed, p.text, h1, h2, Nat.zero_le _, fun i hi => absurd hi (Nat.not_lt_zero i), p.tray, p.img⟩
end EBRESTORE
