section EBVALLEY
variable {L : Nat} {xs : Nat → Int32}
/-- a world may be taken as sound: where it is not, a call says nothing -/
theorem eb_prw {kx km : Nat} {args : List Value} {k : Nat} {h : eb_H} (inv : eb_Inv L xs k h) (H : eb_wf h → eb_al h s_EB → eb_Pr kx km args (eb_Inv L xs (k + 1)) h) : eb_Pr kx km args (eb_Inv L xs (k + 1)) h := by
  by_cases a : eb_wf h ∧ eb_al h s_EB
  · exact H a.1 a.2
  · have up := inv.up
    obtain ⟨ko, eL, eX, w, b1, b2, b3, b4, b5, b6⟩ := inv
    have bad : ∀ args, ¬ (eb_wf h ∧ eb_avs h (.ref s_EB :: args)) := fun args z => by
      refine a ⟨z.1, ?_⟩
      have := eb_avh z.2
      have this : 20 ≤ eb_kd s_EB ∨ eb_al h s_EB := this
      rcases this with u | u
      · exact absurd u (by decide)
      · exact u
    have nw : ¬ eb_wf (h.1, (fun _ => 0), h.2.2) := fun z => by
      have := (z.1 1 (show 1 < eb_n h by omega)).1
      have this : eb_ix 0 = 1 := this
      exact absurd this (by decide)
    refine ⟨some (.int 0), (h.1, (fun _ => 0), h.2.2), ⟨⟨Nat.le_refl _, Nat.le_refl _⟩, fun l D cy A ad sz hA hwf hav => absurd ⟨hwf, hav⟩ (bad args)⟩, 0, rfl, ko, rfl, rfl, ?_⟩
    exact ⟨some (.int 0), h, ⟨⟨Nat.le_refl _, Nat.le_refl _⟩, fun l D cy A ad sz hA hwf hav => absurd hwf nw⟩, rfl, up⟩
/-! what was stays, though cells are made -/
theorem ee_xP_ix {c : Nat} (h : ee_xP c) : eb_ix c < 12 := by
  rcases h with ((h | h | h) | h) | h | h <;> rw [h] <;> decide
/-- nothing fed, a fault and its place -/
def eb_Wo.fed0 (w : eb_Wo) (F : Int32 × Int32) : eb_Wo := (0, w.2.1, F, w.va, w.now, w.past, w.tray, w.img)
theorem eb_okW.fed0 {w : eb_Wo} (p : eb_okW w) (F : Int32 × Int32) : eb_okW (w.fed0 F) := ⟨Nat.zero_le _, fun j hj => absurd hj (Nat.not_lt_zero j), p.va, p.now, p.len, p.past, p.tray, p.img⟩
theorem ee_gw.fl {P : Nat → Prop} {h g h' : eb_H} {i k : Nat} {x : Option Nat} (e : g = eb_sR h i k x) (a : ee_gw P g h') : ∀ c, eb_ix c < eb_n h → c ≠ i → (¬ P c → eb_I h' c = eb_I h c) ∧ eb_J h' c = eb_J h c ∧ eb_R h' c = eb_R h c := fun c z ne => by
  subst e
  have m := a.2 c z
  refine ⟨m.1, m.2.1, ?_⟩
  rw [m.2.2, eb_R_sRn ne]
theorem ee_XB.h89 {h h3 : eb_H} {v : Nat} (B : ee_XB (eb_sR h s_reader 2 (some v)) h3 v) : 89 ≤ eb_n h := by
  have h9 := B.2.1.2.2
  have := B.2.2.1.1
  have e : eb_n (eb_sR h s_reader 2 (some v)) = eb_n h := rfl
  omega
theorem ee_XB.sm {h h3 : eb_H} {v : Nat} (B : ee_XB (eb_sR h s_reader 2 (some v)) h3 v) : ∀ c, eb_ix c < eb_n h → (eb_ix c = 0 ∨ 12 ≤ eb_ix c) → eb_I (eb_sI h3 s_tape 1 0) c = eb_I h c ∧ eb_J (eb_sI h3 s_tape 1 0) c = eb_J h c ∧ eb_R (eb_sI h3 s_tape 1 0) c = eb_R h c := fun c z zi => by
  have G := B.1.1
  have ix1 : eb_ix s_reader = 1 := by decide
  have m := G.fl rfl c z (fun e => by rw [e] at zi; omega)
  refine ⟨?_, m.2.1, m.2.2⟩
  have ct : c ≠ s_tape := fun e => by
    rw [e] at zi
    have : eb_ix s_tape = 3 := by decide
    omega
  rw [eb_I_sIn ct]
  refine m.1 (fun u => ?_)
  have i12 := ee_xP_ix u
  have i0 : eb_ix c = 0 := by omega
  rcases u with ((u | u | u) | u) | u | u <;> rw [u] at i0 <;> exact absurd i0 (by decide)
theorem PM.read {w : eb_Wo} {h h3 : eb_H} {v : Nat} (p : PM w h) (B : ee_XB (eb_sR h s_reader 2 (some v)) h3 v) : PM w (eb_sI h3 s_tape 1 0) := by
  have h89 := B.h89
  refine p.mv (fun c z => B.sm c ?_ ?_)
  · unfold eb_isM at z; omega
  · unfold eb_isM at z; omega
theorem PX.read {w : eb_Wo} {h h3 : eb_H} {v : Nat} {F : Int32 × Int32} (p : PX w h) (wf : eb_wf h) (al : eb_al h s_EB) (ko : eb_KO h) (B : ee_XB (eb_sR h s_reader 2 (some v)) h3 v) (f7 : eb_I h3 s_tape 7 = F.1) (f8 : eb_I h3 s_tape 8 = F.2) : PX (w.fed0 F) (eb_sI h3 s_tape 1 0) := by
  have h89 := B.h89
  have sm0 := B.sm
  have sm : ∀ a b, 12 ≤ a → b ≤ 88 → eb_same (eb_in a b) h (eb_sI h3 s_tape 1 0) := fun a b z1 z2 c y => sm0 c (by have := y.2.2; omega) (by have := y.2.1; omega)
  have sEB := sm0 s_EB (by have : eb_ix s_EB = 0 := by decide
                           omega) (Or.inl (by decide))
  have aim : eb_al h s_imageValleys := wf.2 s_EB al 10 _ (ko_s_EB_10 ko)
  have sIm := sm0 s_imageValleys aim.1 (Or.inr (by decide))
  have vm : ∀ v' V, eb_al h v' → PXV h v' V → PXV (eb_sI h3 s_tape 1 0) v' V := fun v' V a' p' => by
    obtain ⟨p0, p1, p2, p3, p4, p5, p6, p7, p8, p9⟩ := p'
    obtain ⟨i1, i2, i3, i4⟩ := eb_ix_h p0.1 p0.2.1
    have a1 := wf.2 v' a' 5 _ p6.1
    have a2 := wf.2 v' a' 6 _ p7.1
    have sv := sm0 v' a'.1 (by omega)
    have sc := sm0 _ a1.1 (by omega)
    have sh := sm0 _ a2.1 (by omega)
    have lm : ∀ k l, PXL h v' k l → PXL (eb_sI h3 s_tape 1 0) v' k l := fun k l q => by
      cases l with
      | none => unfold PXL at q ⊢; rw [sv.2.2]; exact q
      | some cs =>
        obtain ⟨l, c, st, nm, q1, q2, q3, q4, q5, q6⟩ := q
        have b1 := wf.2 v' a' k l q1
        have b2 := wf.2 l b1 0 c q3.1
        have sl := sm0 l b1.1 (by have := q2.2; omega)
        have sc := sm0 c b2.1 (by have := q3.2.2.1; omega)
        refine ⟨l, c, st, nm, by rw [sv.2.2]; exact q1, q2, ?_, ?_, ?_, ?_⟩
        · rw [sl.2.2]; exact q3
        · rw [sl.2.2]; exact q4
        · rw [sl.2.2]; exact q5
        · rw [sc.1]; exact q6
    refine ⟨p0, ?_, ?_, ?_, ?_, ?_, ?_, ?_, lm 7 _ p8, lm 8 _ p9⟩
    · rw [sv.1]; exact p1
    · rw [sv.1]; exact p2
    · rw [sv.1]; exact p3
    · rw [sv.1]; exact p4
    · rw [sv.1]; exact p5
    · rw [sv.2.2, sc.1]; exact p6
    · rw [sv.2.2, sh.1]; exact p7
  obtain ⟨pa1, pa2⟩ := p.past_mv (sm 21 42 (by omega) (by omega))
  refine ⟨eb_I_sI', fun j hj => absurd hj (Nat.not_lt_zero j), ?_, ?_, ?_, p.now_mv (sm 15 16 (by omega) (by omega)), pa1, pa2, fun i hi => (p.tray i hi).mv hi (sm _ _ (by omega) (by omega)), fun i hi => ?_, p.two_mv (sm 43 43 (by omega) (by omega))⟩
  · rw [eb_I_sI, if_neg (by decide)]; exact f7
  · rw [eb_I_sI, if_neg (by decide)]; exact f8
  · obtain ⟨v', e, pv⟩ := p.va
    exact ⟨v', by rw [sEB.2.2]; exact e, vm v' _ (wf.2 s_EB al 2 v' e) pv⟩
  · have pi := p.img i hi
    show PXI (eb_sI h3 s_tape 1 0) i (w.img i)
    cases ht : w.img i with
    | none =>
      rw [ht] at pi
      unfold PXI at pi ⊢
      rw [sIm.2.2]
      exact pi
    | some t =>
      rw [ht] at pi
      unfold PXI at pi ⊢
      rw [sIm.2.2]
      obtain ⟨⟨v', e, pv⟩, ps⟩ := pi
      have q1 := sm (67 + 2 * i) (68 + 2 * i) (by omega) (by omega)
      have r1 := q1 (s_imageStates_0 + 1048576 * i) (by unfold eb_in eb_ix eb_kd s_imageStates_0; omega)
      have r2 := q1 (s_imageStates_0 + 1048576 * i + 524807) (by unfold eb_in eb_ix eb_kd s_imageStates_0; omega)
      exact ⟨⟨v', e, vm v' _ (wf.2 s_imageValleys aim i v' e) pv⟩, ps.mv r1.1 r1.2.2 r2.1⟩
end EBVALLEY
